theorem dX9_hasRoom_0 : decode cX9_hasRoom 0 = .ok (.aload_n 0, 1) := by decide +kernel
theorem dX9_hasRoom_1 : decode cX9_hasRoom 1 = .ok (.getfield 15, 3) := by decide +kernel
theorem dX9_hasRoom_4 : decode cX9_hasRoom 4 = .ok (.iload_n 1, 1) := by decide +kernel
theorem dX9_hasRoom_5 : decode cX9_hasRoom 5 = .ok (.iadd, 1) := by decide +kernel
theorem dX9_hasRoom_6 : decode cX9_hasRoom 6 = .ok (.sipush 400, 3) := by decide +kernel
theorem dX9_hasRoom_9 : decode cX9_hasRoom 9 = .ok (.if_icmp .gt 7, 3) := by decide +kernel
theorem dX9_hasRoom_12 : decode cX9_hasRoom 12 = .ok (.iconst 1, 1) := by decide +kernel
theorem dX9_hasRoom_13 : decode cX9_hasRoom 13 = .ok (.goto 4, 3) := by decide +kernel
theorem dX9_hasRoom_16 : decode cX9_hasRoom 16 = .ok (.iconst 0, 1) := by decide +kernel
theorem dX9_hasRoom_17 : decode cX9_hasRoom 17 = .ok (.ireturn, 1) := by decide +kernel
theorem dX9_put_0 : decode cX9_put 0 = .ok (.bipush 24, 2) := by decide +kernel
theorem dX9_put_2 : decode cX9_put 2 = .ok (.istore_n 2, 1) := by decide +kernel
theorem dX9_put_3 : decode cX9_put 3 = .ok (.iload_n 2, 1) := by decide +kernel
theorem dX9_put_4 : decode cX9_put 4 = .ok (.ifCond .lt 42, 3) := by decide +kernel
theorem dX9_put_7 : decode cX9_put 7 = .ok (.aload_n 0, 1) := by decide +kernel
theorem dX9_put_8 : decode cX9_put 8 = .ok (.getfield 15, 3) := by decide +kernel
theorem dX9_put_11 : decode cX9_put 11 = .ok (.sipush 400, 3) := by decide +kernel
theorem dX9_put_14 : decode cX9_put 14 = .ok (.if_icmp .ge 32, 3) := by decide +kernel
theorem dX9_put_17 : decode cX9_put 17 = .ok (.aload_n 0, 1) := by decide +kernel
theorem dX9_put_18 : decode cX9_put 18 = .ok (.getfield 11, 3) := by decide +kernel
theorem dX9_put_21 : decode cX9_put 21 = .ok (.aload_n 0, 1) := by decide +kernel
theorem dX9_put_22 : decode cX9_put 22 = .ok (.getfield 15, 3) := by decide +kernel
theorem dX9_put_25 : decode cX9_put 25 = .ok (.iload_n 1, 1) := by decide +kernel
theorem dX9_put_26 : decode cX9_put 26 = .ok (.iload_n 2, 1) := by decide +kernel
theorem dX9_put_27 : decode cX9_put 27 = .ok (.ishr, 1) := by decide +kernel
theorem dX9_put_28 : decode cX9_put 28 = .ok (.i2b, 1) := by decide +kernel
theorem dX9_put_29 : decode cX9_put 29 = .ok (.bastore, 1) := by decide +kernel
theorem dX9_put_30 : decode cX9_put 30 = .ok (.aload_n 0, 1) := by decide +kernel
theorem dX9_put_31 : decode cX9_put 31 = .ok (.dup, 1) := by decide +kernel
theorem dX9_put_32 : decode cX9_put 32 = .ok (.getfield 15, 3) := by decide +kernel
theorem dX9_put_35 : decode cX9_put 35 = .ok (.iconst 1, 1) := by decide +kernel
theorem dX9_put_36 : decode cX9_put 36 = .ok (.iadd, 1) := by decide +kernel
theorem dX9_put_37 : decode cX9_put 37 = .ok (.putfield 15, 3) := by decide +kernel
theorem dX9_put_40 : decode cX9_put 40 = .ok (.iinc 2 (-8), 3) := by decide +kernel
theorem dX9_put_43 : decode cX9_put 43 = .ok (.goto (-40), 3) := by decide +kernel
theorem dX9_put_46 : decode cX9_put 46 = .ok (.return_, 1) := by decide +kernel
theorem dX6_clear_0 : decode cX6_clear 0 = .ok (.aload_n 0, 1) := by decide +kernel
theorem dX6_clear_1 : decode cX6_clear 1 = .ok (.iconst 0, 1) := by decide +kernel
theorem dX6_clear_2 : decode cX6_clear 2 = .ok (.putfield 38, 3) := by decide +kernel
theorem dX6_clear_5 : decode cX6_clear 5 = .ok (.aload_n 0, 1) := by decide +kernel
theorem dX6_clear_6 : decode cX6_clear 6 = .ok (.iconst (-1), 1) := by decide +kernel
theorem dX6_clear_7 : decode cX6_clear 7 = .ok (.putfield 28, 3) := by decide +kernel
theorem dX6_clear_10 : decode cX6_clear 10 = .ok (.aload_n 0, 1) := by decide +kernel
theorem dX6_clear_11 : decode cX6_clear 11 = .ok (.iconst 0, 1) := by decide +kernel
theorem dX6_clear_12 : decode cX6_clear 12 = .ok (.putfield 41, 3) := by decide +kernel
theorem dX6_clear_15 : decode cX6_clear 15 = .ok (.aload_n 0, 1) := by decide +kernel
theorem dX6_clear_16 : decode cX6_clear 16 = .ok (.iconst 0, 1) := by decide +kernel
theorem dX6_clear_17 : decode cX6_clear 17 = .ok (.putfield 44, 3) := by decide +kernel
theorem dX6_clear_20 : decode cX6_clear 20 = .ok (.return_, 1) := by decide +kernel
theorem dX9_at_0 : decode cX9_at 0 = .ok (.iload_n 1, 1) := by decide +kernel
theorem dX9_at_1 : decode cX9_at 1 = .ok (.ifCond .lt 11, 3) := by decide +kernel
theorem dX9_at_4 : decode cX9_at 4 = .ok (.iload_n 1, 1) := by decide +kernel
theorem dX9_at_5 : decode cX9_at 5 = .ok (.aload_n 0, 1) := by decide +kernel
theorem dX9_at_6 : decode cX9_at 6 = .ok (.getfield 15, 3) := by decide +kernel
theorem dX9_at_9 : decode cX9_at 9 = .ok (.if_icmp .lt 7, 3) := by decide +kernel
theorem dX9_at_12 : decode cX9_at 12 = .ok (.iconst (-1), 1) := by decide +kernel
theorem dX9_at_13 : decode cX9_at 13 = .ok (.goto 13, 3) := by decide +kernel
theorem dX9_at_16 : decode cX9_at 16 = .ok (.aload_n 0, 1) := by decide +kernel
theorem dX9_at_17 : decode cX9_at 17 = .ok (.getfield 11, 3) := by decide +kernel
theorem dX9_at_20 : decode cX9_at 20 = .ok (.iload_n 1, 1) := by decide +kernel
theorem dX9_at_21 : decode cX9_at 21 = .ok (.baload, 1) := by decide +kernel
theorem dX9_at_22 : decode cX9_at 22 = .ok (.sipush 255, 3) := by decide +kernel
theorem dX9_at_25 : decode cX9_at 25 = .ok (.iand, 1) := by decide +kernel
theorem dX9_at_26 : decode cX9_at 26 = .ok (.ireturn, 1) := by decide +kernel
theorem dX7_isLetter_0 : decode cX7_isLetter 0 = .ok (.iload_n 0, 1) := by decide +kernel
theorem dX7_isLetter_1 : decode cX7_isLetter 1 = .ok (.bipush 97, 2) := by decide +kernel
theorem dX7_isLetter_3 : decode cX7_isLetter 3 = .ok (.if_icmp .lt 13, 3) := by decide +kernel
theorem dX7_isLetter_6 : decode cX7_isLetter 6 = .ok (.iload_n 0, 1) := by decide +kernel
theorem dX7_isLetter_7 : decode cX7_isLetter 7 = .ok (.bipush 122, 2) := by decide +kernel
theorem dX7_isLetter_9 : decode cX7_isLetter 9 = .ok (.if_icmp .gt 7, 3) := by decide +kernel
theorem dX7_isLetter_12 : decode cX7_isLetter 12 = .ok (.iconst 1, 1) := by decide +kernel
theorem dX7_isLetter_13 : decode cX7_isLetter 13 = .ok (.goto 4, 3) := by decide +kernel
theorem dX7_isLetter_16 : decode cX7_isLetter 16 = .ok (.iconst 0, 1) := by decide +kernel
theorem dX7_isLetter_17 : decode cX7_isLetter 17 = .ok (.ireturn, 1) := by decide +kernel
theorem dX7_isDigit_0 : decode cX7_isDigit 0 = .ok (.iload_n 0, 1) := by decide +kernel
theorem dX7_isDigit_1 : decode cX7_isDigit 1 = .ok (.bipush 48, 2) := by decide +kernel
theorem dX7_isDigit_3 : decode cX7_isDigit 3 = .ok (.if_icmp .lt 13, 3) := by decide +kernel
theorem dX7_isDigit_6 : decode cX7_isDigit 6 = .ok (.iload_n 0, 1) := by decide +kernel
theorem dX7_isDigit_7 : decode cX7_isDigit 7 = .ok (.bipush 57, 2) := by decide +kernel
theorem dX7_isDigit_9 : decode cX7_isDigit 9 = .ok (.if_icmp .gt 7, 3) := by decide +kernel
theorem dX7_isDigit_12 : decode cX7_isDigit 12 = .ok (.iconst 1, 1) := by decide +kernel
theorem dX7_isDigit_13 : decode cX7_isDigit 13 = .ok (.goto 4, 3) := by decide +kernel
theorem dX7_isDigit_16 : decode cX7_isDigit 16 = .ok (.iconst 0, 1) := by decide +kernel
theorem dX7_isDigit_17 : decode cX7_isDigit 17 = .ok (.ireturn, 1) := by decide +kernel
theorem dX7_isBlank_0 : decode cX7_isBlank 0 = .ok (.iload_n 0, 1) := by decide +kernel
theorem dX7_isBlank_1 : decode cX7_isBlank 1 = .ok (.bipush 9, 2) := by decide +kernel
theorem dX7_isBlank_3 : decode cX7_isBlank 3 = .ok (.if_icmp .eq 15, 3) := by decide +kernel
theorem dX7_isBlank_6 : decode cX7_isBlank 6 = .ok (.iload_n 0, 1) := by decide +kernel
theorem dX7_isBlank_7 : decode cX7_isBlank 7 = .ok (.bipush 10, 2) := by decide +kernel
theorem dX7_isBlank_9 : decode cX7_isBlank 9 = .ok (.if_icmp .eq 9, 3) := by decide +kernel
theorem dX7_isBlank_12 : decode cX7_isBlank 12 = .ok (.iload_n 0, 1) := by decide +kernel
theorem dX7_isBlank_13 : decode cX7_isBlank 13 = .ok (.bipush 32, 2) := by decide +kernel
theorem dX7_isBlank_15 : decode cX7_isBlank 15 = .ok (.if_icmp .ne 7, 3) := by decide +kernel
theorem dX7_isBlank_18 : decode cX7_isBlank 18 = .ok (.iconst 1, 1) := by decide +kernel
theorem dX7_isBlank_19 : decode cX7_isBlank 19 = .ok (.goto 4, 3) := by decide +kernel
theorem dX7_isBlank_22 : decode cX7_isBlank 22 = .ok (.iconst 0, 1) := by decide +kernel
theorem dX7_isBlank_23 : decode cX7_isBlank 23 = .ok (.ireturn, 1) := by decide +kernel
theorem dX7_next_0 : decode cX7_next 0 = .ok (.aload_n 0, 1) := by decide +kernel
theorem dX7_next_1 : decode cX7_next 1 = .ok (.aload_n 0, 1) := by decide +kernel
theorem dX7_next_2 : decode cX7_next 2 = .ok (.getfield 32, 3) := by decide +kernel
theorem dX7_next_5 : decode cX7_next 5 = .ok (.putfield 19, 3) := by decide +kernel
theorem dX7_next_8 : decode cX7_next 8 = .ok (.aload_n 0, 1) := by decide +kernel
theorem dX7_next_9 : decode cX7_next 9 = .ok (.getfield 19, 3) := by decide +kernel
theorem dX7_next_12 : decode cX7_next 12 = .ok (.aload_n 0, 1) := by decide +kernel
theorem dX7_next_13 : decode cX7_next 13 = .ok (.getfield 9, 3) := by decide +kernel
theorem dX7_next_16 : decode cX7_next 16 = .ok (.getfield 40, 3) := by decide +kernel
theorem dX7_next_19 : decode cX7_next 19 = .ok (.if_icmp .ge 33, 3) := by decide +kernel
theorem dX7_next_22 : decode cX7_next 22 = .ok (.aload_n 0, 1) := by decide +kernel
theorem dX7_next_23 : decode cX7_next 23 = .ok (.getfield 9, 3) := by decide +kernel
theorem dX7_next_26 : decode cX7_next 26 = .ok (.aload_n 0, 1) := by decide +kernel
theorem dX7_next_27 : decode cX7_next 27 = .ok (.getfield 19, 3) := by decide +kernel
theorem dX7_next_30 : decode cX7_next 30 = .ok (.invokevirtual 124, 3) := by decide +kernel
theorem dX7_next_33 : decode cX7_next 33 = .ok (.invokestatic 153, 3) := by decide +kernel
theorem dX7_next_36 : decode cX7_next 36 = .ok (.ifCond .eq 16, 3) := by decide +kernel
theorem dX7_next_39 : decode cX7_next 39 = .ok (.aload_n 0, 1) := by decide +kernel
theorem dX7_next_40 : decode cX7_next 40 = .ok (.dup, 1) := by decide +kernel
theorem dX7_next_41 : decode cX7_next 41 = .ok (.getfield 19, 3) := by decide +kernel
theorem dX7_next_44 : decode cX7_next 44 = .ok (.iconst 1, 1) := by decide +kernel
theorem dX7_next_45 : decode cX7_next 45 = .ok (.iadd, 1) := by decide +kernel
theorem dX7_next_46 : decode cX7_next 46 = .ok (.putfield 19, 3) := by decide +kernel
theorem dX7_next_49 : decode cX7_next 49 = .ok (.goto (-41), 3) := by decide +kernel
theorem dX7_next_52 : decode cX7_next 52 = .ok (.aload_n 0, 1) := by decide +kernel
theorem dX7_next_53 : decode cX7_next 53 = .ok (.aload_n 0, 1) := by decide +kernel
theorem dX7_next_54 : decode cX7_next 54 = .ok (.getfield 19, 3) := by decide +kernel
theorem dX7_next_57 : decode cX7_next 57 = .ok (.putfield 32, 3) := by decide +kernel
theorem dX7_next_60 : decode cX7_next 60 = .ok (.aload_n 0, 1) := by decide +kernel
theorem dX7_next_61 : decode cX7_next 61 = .ok (.getfield 9, 3) := by decide +kernel
theorem dX7_next_64 : decode cX7_next 64 = .ok (.aload_n 0, 1) := by decide +kernel
theorem dX7_next_65 : decode cX7_next 65 = .ok (.getfield 19, 3) := by decide +kernel
theorem dX7_next_68 : decode cX7_next 68 = .ok (.invokevirtual 124, 3) := by decide +kernel
theorem dX7_next_71 : decode cX7_next 71 = .ok (.invokestatic 157, 3) := by decide +kernel
theorem dX7_next_74 : decode cX7_next 74 = .ok (.ifCond .eq 47, 3) := by decide +kernel
theorem dX7_next_77 : decode cX7_next 77 = .ok (.aload_n 0, 1) := by decide +kernel
theorem dX7_next_78 : decode cX7_next 78 = .ok (.getfield 32, 3) := by decide +kernel
theorem dX7_next_81 : decode cX7_next 81 = .ok (.aload_n 0, 1) := by decide +kernel
theorem dX7_next_82 : decode cX7_next 82 = .ok (.getfield 9, 3) := by decide +kernel
theorem dX7_next_85 : decode cX7_next 85 = .ok (.getfield 40, 3) := by decide +kernel
theorem dX7_next_88 : decode cX7_next 88 = .ok (.if_icmp .ge 118, 3) := by decide +kernel
theorem dX7_next_91 : decode cX7_next 91 = .ok (.aload_n 0, 1) := by decide +kernel
theorem dX7_next_92 : decode cX7_next 92 = .ok (.getfield 9, 3) := by decide +kernel
theorem dX7_next_95 : decode cX7_next 95 = .ok (.aload_n 0, 1) := by decide +kernel
theorem dX7_next_96 : decode cX7_next 96 = .ok (.getfield 32, 3) := by decide +kernel
theorem dX7_next_99 : decode cX7_next 99 = .ok (.invokevirtual 124, 3) := by decide +kernel
theorem dX7_next_102 : decode cX7_next 102 = .ok (.invokestatic 157, 3) := by decide +kernel
theorem dX7_next_105 : decode cX7_next 105 = .ok (.ifCond .eq 101, 3) := by decide +kernel
theorem dX7_next_108 : decode cX7_next 108 = .ok (.aload_n 0, 1) := by decide +kernel
theorem dX7_next_109 : decode cX7_next 109 = .ok (.dup, 1) := by decide +kernel
theorem dX7_next_110 : decode cX7_next 110 = .ok (.getfield 32, 3) := by decide +kernel
theorem dX7_next_113 : decode cX7_next 113 = .ok (.iconst 1, 1) := by decide +kernel
theorem dX7_next_114 : decode cX7_next 114 = .ok (.iadd, 1) := by decide +kernel
theorem dX7_next_115 : decode cX7_next 115 = .ok (.putfield 32, 3) := by decide +kernel
theorem dX7_next_118 : decode cX7_next 118 = .ok (.goto (-41), 3) := by decide +kernel
theorem dX7_next_121 : decode cX7_next 121 = .ok (.aload_n 0, 1) := by decide +kernel
theorem dX7_next_122 : decode cX7_next 122 = .ok (.getfield 9, 3) := by decide +kernel
theorem dX7_next_125 : decode cX7_next 125 = .ok (.aload_n 0, 1) := by decide +kernel
theorem dX7_next_126 : decode cX7_next 126 = .ok (.getfield 19, 3) := by decide +kernel
theorem dX7_next_129 : decode cX7_next 129 = .ok (.invokevirtual 124, 3) := by decide +kernel
theorem dX7_next_132 : decode cX7_next 132 = .ok (.invokestatic 160, 3) := by decide +kernel
theorem dX7_next_135 : decode cX7_next 135 = .ok (.ifCond .eq 47, 3) := by decide +kernel
theorem dX7_next_138 : decode cX7_next 138 = .ok (.aload_n 0, 1) := by decide +kernel
theorem dX7_next_139 : decode cX7_next 139 = .ok (.getfield 32, 3) := by decide +kernel
theorem dX7_next_142 : decode cX7_next 142 = .ok (.aload_n 0, 1) := by decide +kernel
theorem dX7_next_143 : decode cX7_next 143 = .ok (.getfield 9, 3) := by decide +kernel
theorem dX7_next_146 : decode cX7_next 146 = .ok (.getfield 40, 3) := by decide +kernel
theorem dX7_next_149 : decode cX7_next 149 = .ok (.if_icmp .ge 57, 3) := by decide +kernel
theorem dX7_next_152 : decode cX7_next 152 = .ok (.aload_n 0, 1) := by decide +kernel
theorem dX7_next_153 : decode cX7_next 153 = .ok (.getfield 9, 3) := by decide +kernel
theorem dX7_next_156 : decode cX7_next 156 = .ok (.aload_n 0, 1) := by decide +kernel
theorem dX7_next_157 : decode cX7_next 157 = .ok (.getfield 32, 3) := by decide +kernel
theorem dX7_next_160 : decode cX7_next 160 = .ok (.invokevirtual 124, 3) := by decide +kernel
theorem dX7_next_163 : decode cX7_next 163 = .ok (.invokestatic 160, 3) := by decide +kernel
theorem dX7_next_166 : decode cX7_next 166 = .ok (.ifCond .eq 40, 3) := by decide +kernel
theorem dX7_next_169 : decode cX7_next 169 = .ok (.aload_n 0, 1) := by decide +kernel
theorem dX7_next_170 : decode cX7_next 170 = .ok (.dup, 1) := by decide +kernel
theorem dX7_next_171 : decode cX7_next 171 = .ok (.getfield 32, 3) := by decide +kernel
theorem dX7_next_174 : decode cX7_next 174 = .ok (.iconst 1, 1) := by decide +kernel
theorem dX7_next_175 : decode cX7_next 175 = .ok (.iadd, 1) := by decide +kernel
theorem dX7_next_176 : decode cX7_next 176 = .ok (.putfield 32, 3) := by decide +kernel
theorem dX7_next_179 : decode cX7_next 179 = .ok (.goto (-41), 3) := by decide +kernel
theorem dX7_next_182 : decode cX7_next 182 = .ok (.aload_n 0, 1) := by decide +kernel
theorem dX7_next_183 : decode cX7_next 183 = .ok (.getfield 19, 3) := by decide +kernel
theorem dX7_next_186 : decode cX7_next 186 = .ok (.aload_n 0, 1) := by decide +kernel
theorem dX7_next_187 : decode cX7_next 187 = .ok (.getfield 9, 3) := by decide +kernel
theorem dX7_next_190 : decode cX7_next 190 = .ok (.getfield 40, 3) := by decide +kernel
theorem dX7_next_193 : decode cX7_next 193 = .ok (.if_icmp .ge 13, 3) := by decide +kernel
theorem dX7_next_196 : decode cX7_next 196 = .ok (.aload_n 0, 1) := by decide +kernel
theorem dX7_next_197 : decode cX7_next 197 = .ok (.dup, 1) := by decide +kernel
theorem dX7_next_198 : decode cX7_next 198 = .ok (.getfield 32, 3) := by decide +kernel
theorem dX7_next_201 : decode cX7_next 201 = .ok (.iconst 1, 1) := by decide +kernel
theorem dX7_next_202 : decode cX7_next 202 = .ok (.iadd, 1) := by decide +kernel
theorem dX7_next_203 : decode cX7_next 203 = .ok (.putfield 32, 3) := by decide +kernel
theorem dX7_next_206 : decode cX7_next 206 = .ok (.return_, 1) := by decide +kernel
theorem dJ0_coder_7d493_0 : decode cJ0_coder_7d493 0 = .ok (.getstatic 38, 3) := by decide +kernel
theorem dJ0_coder_7d493_3 : decode cJ0_coder_7d493 3 = .ok (.ifCond .eq 10, 3) := by decide +kernel
theorem dJ0_coder_7d493_6 : decode cJ0_coder_7d493 6 = .ok (.aload_n 0, 1) := by decide +kernel
theorem dJ0_coder_7d493_7 : decode cJ0_coder_7d493 7 = .ok (.getfield 15, 3) := by decide +kernel
theorem dJ0_coder_7d493_10 : decode cJ0_coder_7d493 10 = .ok (.goto 4, 3) := by decide +kernel
theorem dJ0_coder_7d493_13 : decode cJ0_coder_7d493 13 = .ok (.iconst 1, 1) := by decide +kernel
theorem dJ0_coder_7d493_14 : decode cJ0_coder_7d493 14 = .ok (.ireturn, 1) := by decide +kernel
theorem dJ0_length_8abf5_0 : decode cJ0_length_8abf5 0 = .ok (.aload_n 0, 1) := by decide +kernel
theorem dJ0_length_8abf5_1 : decode cJ0_length_8abf5 1 = .ok (.getfield 9, 3) := by decide +kernel
theorem dJ0_length_8abf5_4 : decode cJ0_length_8abf5 4 = .ok (.arraylength, 1) := by decide +kernel
theorem dJ0_length_8abf5_5 : decode cJ0_length_8abf5 5 = .ok (.aload_n 0, 1) := by decide +kernel
theorem dJ0_length_8abf5_6 : decode cJ0_length_8abf5 6 = .ok (.invokevirtual 335, 3) := by decide +kernel
theorem dJ0_length_8abf5_9 : decode cJ0_length_8abf5 9 = .ok (.ishr, 1) := by decide +kernel
theorem dJ0_length_8abf5_10 : decode cJ0_length_8abf5 10 = .ok (.ireturn, 1) := by decide +kernel
theorem dJ0_isLatin1_aae02_0 : decode cJ0_isLatin1_aae02 0 = .ok (.getstatic 38, 3) := by decide +kernel
theorem dJ0_isLatin1_aae02_3 : decode cJ0_isLatin1_aae02 3 = .ok (.ifCond .eq 14, 3) := by decide +kernel
theorem dJ0_isLatin1_aae02_6 : decode cJ0_isLatin1_aae02 6 = .ok (.aload_n 0, 1) := by decide +kernel
theorem dJ0_isLatin1_aae02_7 : decode cJ0_isLatin1_aae02 7 = .ok (.getfield 15, 3) := by decide +kernel
theorem dJ0_isLatin1_aae02_10 : decode cJ0_isLatin1_aae02 10 = .ok (.ifCond .ne 7, 3) := by decide +kernel
theorem dJ0_isLatin1_aae02_13 : decode cJ0_isLatin1_aae02 13 = .ok (.iconst 1, 1) := by decide +kernel
theorem dJ0_isLatin1_aae02_14 : decode cJ0_isLatin1_aae02 14 = .ok (.goto 4, 3) := by decide +kernel
theorem dJ0_isLatin1_aae02_17 : decode cJ0_isLatin1_aae02 17 = .ok (.iconst 0, 1) := by decide +kernel
theorem dJ0_isLatin1_aae02_18 : decode cJ0_isLatin1_aae02 18 = .ok (.ireturn, 1) := by decide +kernel
theorem dJ3_checkIndex_8e157_0 : decode cJ3_checkIndex_8e157 0 = .ok (.iload_n 0, 1) := by decide +kernel
theorem dJ3_checkIndex_8e157_1 : decode cJ3_checkIndex_8e157 1 = .ok (.ifCond .lt 8, 3) := by decide +kernel
theorem dJ3_checkIndex_8e157_4 : decode cJ3_checkIndex_8e157 4 = .ok (.iload_n 0, 1) := by decide +kernel
theorem dJ3_checkIndex_8e157_5 : decode cJ3_checkIndex_8e157 5 = .ok (.iload_n 1, 1) := by decide +kernel
theorem dJ3_checkIndex_8e157_6 : decode cJ3_checkIndex_8e157 6 = .ok (.if_icmp .lt 10, 3) := by decide +kernel
theorem dJ3_checkIndex_8e157_9 : decode cJ3_checkIndex_8e157 9 = .ok (.aload_n 2, 1) := by decide +kernel
theorem dJ3_checkIndex_8e157_10 : decode cJ3_checkIndex_8e157 10 = .ok (.iload_n 0, 1) := by decide +kernel
theorem dJ3_checkIndex_8e157_11 : decode cJ3_checkIndex_8e157 11 = .ok (.iload_n 1, 1) := by decide +kernel
theorem dJ3_checkIndex_8e157_12 : decode cJ3_checkIndex_8e157 12 = .ok (.invokestatic 95, 3) := by decide +kernel
theorem dJ3_checkIndex_8e157_15 : decode cJ3_checkIndex_8e157 15 = .ok (.athrow, 1) := by decide +kernel
theorem dJ3_checkIndex_8e157_16 : decode cJ3_checkIndex_8e157 16 = .ok (.iload_n 0, 1) := by decide +kernel
theorem dJ3_checkIndex_8e157_17 : decode cJ3_checkIndex_8e157 17 = .ok (.ireturn, 1) := by decide +kernel
theorem dJ0_checkIndex_df160_0 : decode cJ0_checkIndex_df160 0 = .ok (.iload_n 0, 1) := by decide +kernel
theorem dJ0_checkIndex_df160_1 : decode cJ0_checkIndex_df160 1 = .ok (.iload_n 1, 1) := by decide +kernel
theorem dJ0_checkIndex_df160_2 : decode cJ0_checkIndex_df160 2 = .ok (.getstatic 1053, 3) := by decide +kernel
theorem dJ0_checkIndex_df160_5 : decode cJ0_checkIndex_df160 5 = .ok (.invokestatic 1059, 3) := by decide +kernel
theorem dJ0_checkIndex_df160_8 : decode cJ0_checkIndex_df160 8 = .ok (.pop, 1) := by decide +kernel
theorem dJ0_checkIndex_df160_9 : decode cJ0_checkIndex_df160 9 = .ok (.return_, 1) := by decide +kernel
theorem dJ1_charAt_3b067_0 : decode cJ1_charAt_3b067 0 = .ok (.iload_n 1, 1) := by decide +kernel
theorem dJ1_charAt_3b067_1 : decode cJ1_charAt_3b067 1 = .ok (.aload_n 0, 1) := by decide +kernel
theorem dJ1_charAt_3b067_2 : decode cJ1_charAt_3b067 2 = .ok (.arraylength, 1) := by decide +kernel
theorem dJ1_charAt_3b067_3 : decode cJ1_charAt_3b067 3 = .ok (.invokestatic 9, 3) := by decide +kernel
theorem dJ1_charAt_3b067_6 : decode cJ1_charAt_3b067 6 = .ok (.aload_n 0, 1) := by decide +kernel
theorem dJ1_charAt_3b067_7 : decode cJ1_charAt_3b067 7 = .ok (.iload_n 1, 1) := by decide +kernel
theorem dJ1_charAt_3b067_8 : decode cJ1_charAt_3b067 8 = .ok (.baload, 1) := by decide +kernel
theorem dJ1_charAt_3b067_9 : decode cJ1_charAt_3b067 9 = .ok (.sipush 255, 3) := by decide +kernel
theorem dJ1_charAt_3b067_12 : decode cJ1_charAt_3b067 12 = .ok (.iand, 1) := by decide +kernel
theorem dJ1_charAt_3b067_13 : decode cJ1_charAt_3b067 13 = .ok (.i2c, 1) := by decide +kernel
theorem dJ1_charAt_3b067_14 : decode cJ1_charAt_3b067 14 = .ok (.ireturn, 1) := by decide +kernel
theorem dJ0_charAt_5068e_0 : decode cJ0_charAt_5068e 0 = .ok (.aload_n 0, 1) := by decide +kernel
theorem dJ0_charAt_5068e_1 : decode cJ0_charAt_5068e 1 = .ok (.invokevirtual 492, 3) := by decide +kernel
theorem dJ0_charAt_5068e_4 : decode cJ0_charAt_5068e 4 = .ok (.ifCond .eq 12, 3) := by decide +kernel
theorem dJ0_charAt_5068e_7 : decode cJ0_charAt_5068e 7 = .ok (.aload_n 0, 1) := by decide +kernel
theorem dJ0_charAt_5068e_8 : decode cJ0_charAt_5068e 8 = .ok (.getfield 9, 3) := by decide +kernel
theorem dJ0_charAt_5068e_11 : decode cJ0_charAt_5068e 11 = .ok (.iload_n 1, 1) := by decide +kernel
theorem dJ0_charAt_5068e_12 : decode cJ0_charAt_5068e 12 = .ok (.invokestatic 495, 3) := by decide +kernel
theorem dJ0_charAt_5068e_15 : decode cJ0_charAt_5068e 15 = .ok (.ireturn, 1) := by decide +kernel
theorem dJ0_charAt_5068e_16 : decode cJ0_charAt_5068e 16 = .ok (.aload_n 0, 1) := by decide +kernel
theorem dJ0_charAt_5068e_17 : decode cJ0_charAt_5068e 17 = .ok (.getfield 9, 3) := by decide +kernel
theorem dJ0_charAt_5068e_20 : decode cJ0_charAt_5068e 20 = .ok (.iload_n 1, 1) := by decide +kernel
theorem dJ0_charAt_5068e_21 : decode cJ0_charAt_5068e 21 = .ok (.invokestatic 498, 3) := by decide +kernel
theorem dJ0_charAt_5068e_24 : decode cJ0_charAt_5068e 24 = .ok (.ireturn, 1) := by decide +kernel
theorem dX7_isWord_0 : decode cX7_isWord 0 = .ok (.aload_n 1, 1) := by decide +kernel
theorem dX7_isWord_1 : decode cX7_isWord 1 = .ok (.invokevirtual 163, 3) := by decide +kernel
theorem dX7_isWord_4 : decode cX7_isWord 4 = .ok (.istore_n 2, 1) := by decide +kernel
theorem dX7_isWord_5 : decode cX7_isWord 5 = .ok (.aload_n 0, 1) := by decide +kernel
theorem dX7_isWord_6 : decode cX7_isWord 6 = .ok (.getfield 32, 3) := by decide +kernel
theorem dX7_isWord_9 : decode cX7_isWord 9 = .ok (.aload_n 0, 1) := by decide +kernel
theorem dX7_isWord_10 : decode cX7_isWord 10 = .ok (.getfield 19, 3) := by decide +kernel
theorem dX7_isWord_13 : decode cX7_isWord 13 = .ok (.isub, 1) := by decide +kernel
theorem dX7_isWord_14 : decode cX7_isWord 14 = .ok (.iload_n 2, 1) := by decide +kernel
theorem dX7_isWord_15 : decode cX7_isWord 15 = .ok (.if_icmp .eq 5, 3) := by decide +kernel
theorem dX7_isWord_18 : decode cX7_isWord 18 = .ok (.iconst 0, 1) := by decide +kernel
theorem dX7_isWord_19 : decode cX7_isWord 19 = .ok (.ireturn, 1) := by decide +kernel
theorem dX7_isWord_20 : decode cX7_isWord 20 = .ok (.iconst 0, 1) := by decide +kernel
theorem dX7_isWord_21 : decode cX7_isWord 21 = .ok (.istore_n 3, 1) := by decide +kernel
theorem dX7_isWord_22 : decode cX7_isWord 22 = .ok (.iload_n 3, 1) := by decide +kernel
theorem dX7_isWord_23 : decode cX7_isWord 23 = .ok (.iload_n 2, 1) := by decide +kernel
theorem dX7_isWord_24 : decode cX7_isWord 24 = .ok (.if_icmp .ge 32, 3) := by decide +kernel
theorem dX7_isWord_27 : decode cX7_isWord 27 = .ok (.aload_n 0, 1) := by decide +kernel
theorem dX7_isWord_28 : decode cX7_isWord 28 = .ok (.getfield 9, 3) := by decide +kernel
theorem dX7_isWord_31 : decode cX7_isWord 31 = .ok (.aload_n 0, 1) := by decide +kernel
theorem dX7_isWord_32 : decode cX7_isWord 32 = .ok (.getfield 19, 3) := by decide +kernel
theorem dX7_isWord_35 : decode cX7_isWord 35 = .ok (.iload_n 3, 1) := by decide +kernel
theorem dX7_isWord_36 : decode cX7_isWord 36 = .ok (.iadd, 1) := by decide +kernel
theorem dX7_isWord_37 : decode cX7_isWord 37 = .ok (.invokevirtual 124, 3) := by decide +kernel
theorem dX7_isWord_40 : decode cX7_isWord 40 = .ok (.aload_n 1, 1) := by decide +kernel
theorem dX7_isWord_41 : decode cX7_isWord 41 = .ok (.iload_n 3, 1) := by decide +kernel
theorem dX7_isWord_42 : decode cX7_isWord 42 = .ok (.invokevirtual 168, 3) := by decide +kernel
theorem dX7_isWord_45 : decode cX7_isWord 45 = .ok (.if_icmp .eq 5, 3) := by decide +kernel
theorem dX7_isWord_48 : decode cX7_isWord 48 = .ok (.iconst 0, 1) := by decide +kernel
theorem dX7_isWord_49 : decode cX7_isWord 49 = .ok (.ireturn, 1) := by decide +kernel
theorem dX7_isWord_50 : decode cX7_isWord 50 = .ok (.iinc 3 1, 3) := by decide +kernel
theorem dX7_isWord_53 : decode cX7_isWord 53 = .ok (.goto (-31), 3) := by decide +kernel
theorem dX7_isWord_56 : decode cX7_isWord 56 = .ok (.iconst 1, 1) := by decide +kernel
theorem dX7_isWord_57 : decode cX7_isWord 57 = .ok (.ireturn, 1) := by decide +kernel
theorem dX7_isSign_0 : decode cX7_isSign 0 = .ok (.aload_n 0, 1) := by decide +kernel
theorem dX7_isSign_1 : decode cX7_isSign 1 = .ok (.getfield 9, 3) := by decide +kernel
theorem dX7_isSign_4 : decode cX7_isSign 4 = .ok (.aload_n 0, 1) := by decide +kernel
theorem dX7_isSign_5 : decode cX7_isSign 5 = .ok (.getfield 19, 3) := by decide +kernel
theorem dX7_isSign_8 : decode cX7_isSign 8 = .ok (.invokevirtual 124, 3) := by decide +kernel
theorem dX7_isSign_11 : decode cX7_isSign 11 = .ok (.iload_n 1, 1) := by decide +kernel
theorem dX7_isSign_12 : decode cX7_isSign 12 = .ok (.if_icmp .ne 7, 3) := by decide +kernel
theorem dX7_isSign_15 : decode cX7_isSign 15 = .ok (.iconst 1, 1) := by decide +kernel
theorem dX7_isSign_16 : decode cX7_isSign 16 = .ok (.goto 4, 3) := by decide +kernel
theorem dX7_isSign_19 : decode cX7_isSign 19 = .ok (.iconst 0, 1) := by decide +kernel
theorem dX7_isSign_20 : decode cX7_isSign 20 = .ok (.ireturn, 1) := by decide +kernel
theorem dX7_takes_0 : decode cX7_takes 0 = .ok (.aload_n 0, 1) := by decide +kernel
theorem dX7_takes_1 : decode cX7_takes 1 = .ok (.iload_n 1, 1) := by decide +kernel
theorem dX7_takes_2 : decode cX7_takes 2 = .ok (.invokevirtual 141, 3) := by decide +kernel
theorem dX7_takes_5 : decode cX7_takes 5 = .ok (.ifCond .ne 5, 3) := by decide +kernel
theorem dX7_takes_8 : decode cX7_takes 8 = .ok (.iconst 0, 1) := by decide +kernel
theorem dX7_takes_9 : decode cX7_takes 9 = .ok (.ireturn, 1) := by decide +kernel
theorem dX7_takes_10 : decode cX7_takes 10 = .ok (.aload_n 0, 1) := by decide +kernel
theorem dX7_takes_11 : decode cX7_takes 11 = .ok (.invokevirtual 35, 3) := by decide +kernel
theorem dX7_takes_14 : decode cX7_takes 14 = .ok (.iconst 1, 1) := by decide +kernel
theorem dX7_takes_15 : decode cX7_takes 15 = .ok (.ireturn, 1) := by decide +kernel
theorem dX7_takeNumber_0 : decode cX7_takeNumber 0 = .ok (.aload_n 0, 1) := by decide +kernel
theorem dX7_takeNumber_1 : decode cX7_takeNumber 1 = .ok (.getfield 9, 3) := by decide +kernel
theorem dX7_takeNumber_4 : decode cX7_takeNumber 4 = .ok (.aload_n 0, 1) := by decide +kernel
theorem dX7_takeNumber_5 : decode cX7_takeNumber 5 = .ok (.getfield 19, 3) := by decide +kernel
theorem dX7_takeNumber_8 : decode cX7_takeNumber 8 = .ok (.invokevirtual 124, 3) := by decide +kernel
theorem dX7_takeNumber_11 : decode cX7_takeNumber 11 = .ok (.bipush 48, 2) := by decide +kernel
theorem dX7_takeNumber_13 : decode cX7_takeNumber 13 = .ok (.isub, 1) := by decide +kernel
theorem dX7_takeNumber_14 : decode cX7_takeNumber 14 = .ok (.istore_n 3, 1) := by decide +kernel
theorem dX7_takeNumber_15 : decode cX7_takeNumber 15 = .ok (.aload_n 0, 1) := by decide +kernel
theorem dX7_takeNumber_16 : decode cX7_takeNumber 16 = .ok (.getfield 32, 3) := by decide +kernel
theorem dX7_takeNumber_19 : decode cX7_takeNumber 19 = .ok (.aload_n 0, 1) := by decide +kernel
theorem dX7_takeNumber_20 : decode cX7_takeNumber 20 = .ok (.getfield 19, 3) := by decide +kernel
theorem dX7_takeNumber_23 : decode cX7_takeNumber 23 = .ok (.isub, 1) := by decide +kernel
theorem dX7_takeNumber_24 : decode cX7_takeNumber 24 = .ok (.iconst 1, 1) := by decide +kernel
theorem dX7_takeNumber_25 : decode cX7_takeNumber 25 = .ok (.if_icmp .ne 13, 3) := by decide +kernel
theorem dX7_takeNumber_28 : decode cX7_takeNumber 28 = .ok (.iload_n 3, 1) := by decide +kernel
theorem dX7_takeNumber_29 : decode cX7_takeNumber 29 = .ok (.iload_n 1, 1) := by decide +kernel
theorem dX7_takeNumber_30 : decode cX7_takeNumber 30 = .ok (.if_icmp .lt 8, 3) := by decide +kernel
theorem dX7_takeNumber_33 : decode cX7_takeNumber 33 = .ok (.iload_n 3, 1) := by decide +kernel
theorem dX7_takeNumber_34 : decode cX7_takeNumber 34 = .ok (.iload_n 2, 1) := by decide +kernel
theorem dX7_takeNumber_35 : decode cX7_takeNumber 35 = .ok (.if_icmp .le 5, 3) := by decide +kernel
theorem dX7_takeNumber_38 : decode cX7_takeNumber 38 = .ok (.iconst (-1), 1) := by decide +kernel
theorem dX7_takeNumber_39 : decode cX7_takeNumber 39 = .ok (.ireturn, 1) := by decide +kernel
theorem dX7_takeNumber_40 : decode cX7_takeNumber 40 = .ok (.aload_n 0, 1) := by decide +kernel
theorem dX7_takeNumber_41 : decode cX7_takeNumber 41 = .ok (.invokevirtual 35, 3) := by decide +kernel
theorem dX7_takeNumber_44 : decode cX7_takeNumber 44 = .ok (.iload_n 3, 1) := by decide +kernel
theorem dX7_takeNumber_45 : decode cX7_takeNumber 45 = .ok (.ireturn, 1) := by decide +kernel
theorem dX1_withAnswer_0 : decode cX1_withAnswer 0 = .ok (.iconst 3, 1) := by decide +kernel
theorem dX1_withAnswer_1 : decode cX1_withAnswer 1 = .ok (.iload_n 1, 1) := by decide +kernel
theorem dX1_withAnswer_2 : decode cX1_withAnswer 2 = .ok (.imul, 1) := by decide +kernel
theorem dX1_withAnswer_3 : decode cX1_withAnswer 3 = .ok (.istore_n 3, 1) := by decide +kernel
theorem dX1_withAnswer_4 : decode cX1_withAnswer 4 = .ok (.iload_n 0, 1) := by decide +kernel
theorem dX1_withAnswer_5 : decode cX1_withAnswer 5 = .ok (.bipush 7, 2) := by decide +kernel
theorem dX1_withAnswer_7 : decode cX1_withAnswer 7 = .ok (.iload_n 3, 1) := by decide +kernel
theorem dX1_withAnswer_8 : decode cX1_withAnswer 8 = .ok (.ishl, 1) := by decide +kernel
theorem dX1_withAnswer_9 : decode cX1_withAnswer 9 = .ok (.iconst (-1), 1) := by decide +kernel
theorem dX1_withAnswer_10 : decode cX1_withAnswer 10 = .ok (.ixor, 1) := by decide +kernel
theorem dX1_withAnswer_11 : decode cX1_withAnswer 11 = .ok (.iand, 1) := by decide +kernel
theorem dX1_withAnswer_12 : decode cX1_withAnswer 12 = .ok (.iload_n 2, 1) := by decide +kernel
theorem dX1_withAnswer_13 : decode cX1_withAnswer 13 = .ok (.iconst 1, 1) := by decide +kernel
theorem dX1_withAnswer_14 : decode cX1_withAnswer 14 = .ok (.iadd, 1) := by decide +kernel
theorem dX1_withAnswer_15 : decode cX1_withAnswer 15 = .ok (.iload_n 3, 1) := by decide +kernel
theorem dX1_withAnswer_16 : decode cX1_withAnswer 16 = .ok (.ishl, 1) := by decide +kernel
theorem dX1_withAnswer_17 : decode cX1_withAnswer 17 = .ok (.ior, 1) := by decide +kernel
theorem dX1_withAnswer_18 : decode cX1_withAnswer 18 = .ok (.ireturn, 1) := by decide +kernel
theorem dX7_readRow_0 : decode cX7_readRow 0 = .ok (.iconst 0, 1) := by decide +kernel
theorem dX7_readRow_1 : decode cX7_readRow 1 = .ok (.istore_n 1, 1) := by decide +kernel
theorem dX7_readRow_2 : decode cX7_readRow 2 = .ok (.aload_n 0, 1) := by decide +kernel
theorem dX7_readRow_3 : decode cX7_readRow 3 = .ok (.invokevirtual 35, 3) := by decide +kernel
theorem dX7_readRow_6 : decode cX7_readRow 6 = .ok (.iconst 0, 1) := by decide +kernel
theorem dX7_readRow_7 : decode cX7_readRow 7 = .ok (.istore_n 2, 1) := by decide +kernel
theorem dX7_readRow_8 : decode cX7_readRow 8 = .ok (.iload_n 2, 1) := by decide +kernel
theorem dX7_readRow_9 : decode cX7_readRow 9 = .ok (.aload_n 0, 1) := by decide +kernel
theorem dX7_readRow_10 : decode cX7_readRow 10 = .ok (.getfield 15, 3) := by decide +kernel
theorem dX7_readRow_13 : decode cX7_readRow 13 = .ok (.getfield 51, 3) := by decide +kernel
theorem dX7_readRow_16 : decode cX7_readRow 16 = .ok (.if_icmp .ge 49, 3) := by decide +kernel
theorem dX7_readRow_19 : decode cX7_readRow 19 = .ok (.aload_n 0, 1) := by decide +kernel
theorem dX7_readRow_20 : decode cX7_readRow 20 = .ok (.bipush 63, 2) := by decide +kernel
theorem dX7_readRow_22 : decode cX7_readRow 22 = .ok (.invokevirtual 47, 3) := by decide +kernel
theorem dX7_readRow_25 : decode cX7_readRow 25 = .ok (.ifCond .ne 34, 3) := by decide +kernel
theorem dX7_readRow_28 : decode cX7_readRow 28 = .ok (.aload_n 0, 1) := by decide +kernel
theorem dX7_readRow_29 : decode cX7_readRow 29 = .ok (.iconst 0, 1) := by decide +kernel
theorem dX7_readRow_30 : decode cX7_readRow 30 = .ok (.aload_n 0, 1) := by decide +kernel
theorem dX7_readRow_31 : decode cX7_readRow 31 = .ok (.getfield 15, 3) := by decide +kernel
theorem dX7_readRow_34 : decode cX7_readRow 34 = .ok (.getfield 111, 3) := by decide +kernel
theorem dX7_readRow_37 : decode cX7_readRow 37 = .ok (.iload_n 2, 1) := by decide +kernel
theorem dX7_readRow_38 : decode cX7_readRow 38 = .ok (.iaload, 1) := by decide +kernel
theorem dX7_readRow_39 : decode cX7_readRow 39 = .ok (.iconst 1, 1) := by decide +kernel
theorem dX7_readRow_40 : decode cX7_readRow 40 = .ok (.isub, 1) := by decide +kernel
theorem dX7_readRow_41 : decode cX7_readRow 41 = .ok (.invokevirtual 105, 3) := by decide +kernel
theorem dX7_readRow_44 : decode cX7_readRow 44 = .ok (.istore_n 3, 1) := by decide +kernel
theorem dX7_readRow_45 : decode cX7_readRow 45 = .ok (.iload_n 3, 1) := by decide +kernel
theorem dX7_readRow_46 : decode cX7_readRow 46 = .ok (.iconst (-1), 1) := by decide +kernel
theorem dX7_readRow_47 : decode cX7_readRow 47 = .ok (.if_icmp .ne 5, 3) := by decide +kernel
theorem dX7_readRow_50 : decode cX7_readRow 50 = .ok (.iconst 0, 1) := by decide +kernel
theorem dX7_readRow_51 : decode cX7_readRow 51 = .ok (.ireturn, 1) := by decide +kernel
theorem dX7_readRow_52 : decode cX7_readRow 52 = .ok (.iload_n 1, 1) := by decide +kernel
theorem dX7_readRow_53 : decode cX7_readRow 53 = .ok (.iload_n 2, 1) := by decide +kernel
theorem dX7_readRow_54 : decode cX7_readRow 54 = .ok (.iload_n 3, 1) := by decide +kernel
theorem dX7_readRow_55 : decode cX7_readRow 55 = .ok (.invokestatic 144, 3) := by decide +kernel
theorem dX7_readRow_58 : decode cX7_readRow 58 = .ok (.istore_n 1, 1) := by decide +kernel
theorem dX7_readRow_59 : decode cX7_readRow 59 = .ok (.iinc 2 1, 3) := by decide +kernel
theorem dX7_readRow_62 : decode cX7_readRow 62 = .ok (.goto (-54), 3) := by decide +kernel
theorem dX7_readRow_65 : decode cX7_readRow 65 = .ok (.aload_n 0, 1) := by decide +kernel
theorem dX7_readRow_66 : decode cX7_readRow 66 = .ok (.getfield 15, 3) := by decide +kernel
theorem dX7_readRow_69 : decode cX7_readRow 69 = .ok (.getfield 150, 3) := by decide +kernel
theorem dX7_readRow_72 : decode cX7_readRow 72 = .ok (.aload_n 0, 1) := by decide +kernel
theorem dX7_readRow_73 : decode cX7_readRow 73 = .ok (.getfield 15, 3) := by decide +kernel
theorem dX7_readRow_76 : decode cX7_readRow 76 = .ok (.getfield 81, 3) := by decide +kernel
theorem dX7_readRow_79 : decode cX7_readRow 79 = .ok (.iload_n 1, 1) := by decide +kernel
theorem dX7_readRow_80 : decode cX7_readRow 80 = .ok (.iastore, 1) := by decide +kernel
theorem dX7_readRow_81 : decode cX7_readRow 81 = .ok (.aload_n 0, 1) := by decide +kernel
theorem dX7_readRow_82 : decode cX7_readRow 82 = .ok (.getfield 15, 3) := by decide +kernel
theorem dX7_readRow_85 : decode cX7_readRow 85 = .ok (.dup, 1) := by decide +kernel
theorem dX7_readRow_86 : decode cX7_readRow 86 = .ok (.getfield 81, 3) := by decide +kernel
theorem dX7_readRow_89 : decode cX7_readRow 89 = .ok (.iconst 1, 1) := by decide +kernel
theorem dX7_readRow_90 : decode cX7_readRow 90 = .ok (.iadd, 1) := by decide +kernel
theorem dX7_readRow_91 : decode cX7_readRow 91 = .ok (.putfield 81, 3) := by decide +kernel
theorem dX7_readRow_94 : decode cX7_readRow 94 = .ok (.iconst 1, 1) := by decide +kernel
theorem dX7_readRow_95 : decode cX7_readRow 95 = .ok (.ireturn, 1) := by decide +kernel
theorem dX6_letter_0 : decode cX6_letter 0 = .ok (.iload_n 2, 1) := by decide +kernel
theorem dX6_letter_1 : decode cX6_letter 1 = .ok (.ifCond .lt 13, 3) := by decide +kernel
theorem dX6_letter_4 : decode cX6_letter 4 = .ok (.iload_n 2, 1) := by decide +kernel
theorem dX6_letter_5 : decode cX6_letter 5 = .ok (.aload_n 0, 1) := by decide +kernel
theorem dX6_letter_6 : decode cX6_letter 6 = .ok (.getfield 25, 3) := by decide +kernel
theorem dX6_letter_9 : decode cX6_letter 9 = .ok (.iload_n 1, 1) := by decide +kernel
theorem dX6_letter_10 : decode cX6_letter 10 = .ok (.iaload, 1) := by decide +kernel
theorem dX6_letter_11 : decode cX6_letter 11 = .ok (.if_icmp .lt 7, 3) := by decide +kernel
theorem dX6_letter_14 : decode cX6_letter 14 = .ok (.iconst (-1), 1) := by decide +kernel
theorem dX6_letter_15 : decode cX6_letter 15 = .ok (.goto 14, 3) := by decide +kernel
theorem dX6_letter_18 : decode cX6_letter 18 = .ok (.aload_n 0, 1) := by decide +kernel
theorem dX6_letter_19 : decode cX6_letter 19 = .ok (.getfield 21, 3) := by decide +kernel
theorem dX6_letter_22 : decode cX6_letter 22 = .ok (.iload_n 1, 1) := by decide +kernel
theorem dX6_letter_23 : decode cX6_letter 23 = .ok (.bipush 6, 2) := by decide +kernel
theorem dX6_letter_25 : decode cX6_letter 25 = .ok (.imul, 1) := by decide +kernel
theorem dX6_letter_26 : decode cX6_letter 26 = .ok (.iload_n 2, 1) := by decide +kernel
theorem dX6_letter_27 : decode cX6_letter 27 = .ok (.iadd, 1) := by decide +kernel
theorem dX6_letter_28 : decode cX6_letter 28 = .ok (.baload, 1) := by decide +kernel
theorem dX6_letter_29 : decode cX6_letter 29 = .ok (.ireturn, 1) := by decide +kernel
theorem dX7_isNameOf_0 : decode cX7_isNameOf 0 = .ok (.aload_n 0, 1) := by decide +kernel
theorem dX7_isNameOf_1 : decode cX7_isNameOf 1 = .ok (.getfield 15, 3) := by decide +kernel
theorem dX7_isNameOf_4 : decode cX7_isNameOf 4 = .ok (.getfield 117, 3) := by decide +kernel
theorem dX7_isNameOf_7 : decode cX7_isNameOf 7 = .ok (.iload_n 1, 1) := by decide +kernel
theorem dX7_isNameOf_8 : decode cX7_isNameOf 8 = .ok (.iaload, 1) := by decide +kernel
theorem dX7_isNameOf_9 : decode cX7_isNameOf 9 = .ok (.istore_n 2, 1) := by decide +kernel
theorem dX7_isNameOf_10 : decode cX7_isNameOf 10 = .ok (.aload_n 0, 1) := by decide +kernel
theorem dX7_isNameOf_11 : decode cX7_isNameOf 11 = .ok (.getfield 32, 3) := by decide +kernel
theorem dX7_isNameOf_14 : decode cX7_isNameOf 14 = .ok (.aload_n 0, 1) := by decide +kernel
theorem dX7_isNameOf_15 : decode cX7_isNameOf 15 = .ok (.getfield 19, 3) := by decide +kernel
theorem dX7_isNameOf_18 : decode cX7_isNameOf 18 = .ok (.isub, 1) := by decide +kernel
theorem dX7_isNameOf_19 : decode cX7_isNameOf 19 = .ok (.iload_n 2, 1) := by decide +kernel
theorem dX7_isNameOf_20 : decode cX7_isNameOf 20 = .ok (.if_icmp .eq 5, 3) := by decide +kernel
theorem dX7_isNameOf_23 : decode cX7_isNameOf 23 = .ok (.iconst 0, 1) := by decide +kernel
theorem dX7_isNameOf_24 : decode cX7_isNameOf 24 = .ok (.ireturn, 1) := by decide +kernel
theorem dX7_isNameOf_25 : decode cX7_isNameOf 25 = .ok (.iconst 0, 1) := by decide +kernel
theorem dX7_isNameOf_26 : decode cX7_isNameOf 26 = .ok (.istore_n 3, 1) := by decide +kernel
theorem dX7_isNameOf_27 : decode cX7_isNameOf 27 = .ok (.iload_n 3, 1) := by decide +kernel
theorem dX7_isNameOf_28 : decode cX7_isNameOf 28 = .ok (.iload_n 2, 1) := by decide +kernel
theorem dX7_isNameOf_29 : decode cX7_isNameOf 29 = .ok (.if_icmp .ge 36, 3) := by decide +kernel
theorem dX7_isNameOf_32 : decode cX7_isNameOf 32 = .ok (.aload_n 0, 1) := by decide +kernel
theorem dX7_isNameOf_33 : decode cX7_isNameOf 33 = .ok (.getfield 9, 3) := by decide +kernel
theorem dX7_isNameOf_36 : decode cX7_isNameOf 36 = .ok (.aload_n 0, 1) := by decide +kernel
theorem dX7_isNameOf_37 : decode cX7_isNameOf 37 = .ok (.getfield 19, 3) := by decide +kernel
theorem dX7_isNameOf_40 : decode cX7_isNameOf 40 = .ok (.iload_n 3, 1) := by decide +kernel
theorem dX7_isNameOf_41 : decode cX7_isNameOf 41 = .ok (.iadd, 1) := by decide +kernel
theorem dX7_isNameOf_42 : decode cX7_isNameOf 42 = .ok (.invokevirtual 124, 3) := by decide +kernel
theorem dX7_isNameOf_45 : decode cX7_isNameOf 45 = .ok (.aload_n 0, 1) := by decide +kernel
theorem dX7_isNameOf_46 : decode cX7_isNameOf 46 = .ok (.getfield 15, 3) := by decide +kernel
theorem dX7_isNameOf_49 : decode cX7_isNameOf 49 = .ok (.iload_n 1, 1) := by decide +kernel
theorem dX7_isNameOf_50 : decode cX7_isNameOf 50 = .ok (.iload_n 3, 1) := by decide +kernel
theorem dX7_isNameOf_51 : decode cX7_isNameOf 51 = .ok (.invokevirtual 175, 3) := by decide +kernel
theorem dX7_isNameOf_54 : decode cX7_isNameOf 54 = .ok (.if_icmp .eq 5, 3) := by decide +kernel
theorem dX7_isNameOf_57 : decode cX7_isNameOf 57 = .ok (.iconst 0, 1) := by decide +kernel
theorem dX7_isNameOf_58 : decode cX7_isNameOf 58 = .ok (.ireturn, 1) := by decide +kernel
theorem dX7_isNameOf_59 : decode cX7_isNameOf 59 = .ok (.iinc 3 1, 3) := by decide +kernel
theorem dX7_isNameOf_62 : decode cX7_isNameOf 62 = .ok (.goto (-35), 3) := by decide +kernel
theorem dX7_isNameOf_65 : decode cX7_isNameOf 65 = .ok (.iconst 1, 1) := by decide +kernel
theorem dX7_isNameOf_66 : decode cX7_isNameOf 66 = .ok (.ireturn, 1) := by decide +kernel
theorem dX7_toldField_0 : decode cX7_toldField 0 = .ok (.iconst 0, 1) := by decide +kernel
theorem dX7_toldField_1 : decode cX7_toldField 1 = .ok (.istore_n 1, 1) := by decide +kernel
theorem dX7_toldField_2 : decode cX7_toldField 2 = .ok (.iload_n 1, 1) := by decide +kernel
theorem dX7_toldField_3 : decode cX7_toldField 3 = .ok (.aload_n 0, 1) := by decide +kernel
theorem dX7_toldField_4 : decode cX7_toldField 4 = .ok (.getfield 15, 3) := by decide +kernel
theorem dX7_toldField_7 : decode cX7_toldField 7 = .ok (.getfield 51, 3) := by decide +kernel
theorem dX7_toldField_10 : decode cX7_toldField 10 = .ok (.if_icmp .ge 19, 3) := by decide +kernel
theorem dX7_toldField_13 : decode cX7_toldField 13 = .ok (.aload_n 0, 1) := by decide +kernel
theorem dX7_toldField_14 : decode cX7_toldField 14 = .ok (.iload_n 1, 1) := by decide +kernel
theorem dX7_toldField_15 : decode cX7_toldField 15 = .ok (.invokevirtual 172, 3) := by decide +kernel
theorem dX7_toldField_18 : decode cX7_toldField 18 = .ok (.ifCond .eq 5, 3) := by decide +kernel
theorem dX7_toldField_21 : decode cX7_toldField 21 = .ok (.iload_n 1, 1) := by decide +kernel
theorem dX7_toldField_22 : decode cX7_toldField 22 = .ok (.ireturn, 1) := by decide +kernel
theorem dX7_toldField_23 : decode cX7_toldField 23 = .ok (.iinc 1 1, 3) := by decide +kernel
theorem dX7_toldField_26 : decode cX7_toldField 26 = .ok (.goto (-24), 3) := by decide +kernel
theorem dX7_toldField_29 : decode cX7_toldField 29 = .ok (.iconst (-1), 1) := by decide +kernel
theorem dX7_toldField_30 : decode cX7_toldField 30 = .ok (.ireturn, 1) := by decide +kernel
theorem dX7_readSpans_0 : decode cX7_readSpans 0 = .ok (.aload_n 0, 1) := by decide +kernel
theorem dX7_readSpans_1 : decode cX7_readSpans 1 = .ok (.getfield 15, 3) := by decide +kernel
theorem dX7_readSpans_4 : decode cX7_readSpans 4 = .ok (.getfield 111, 3) := by decide +kernel
theorem dX7_readSpans_7 : decode cX7_readSpans 7 = .ok (.iload_n 1, 1) := by decide +kernel
theorem dX7_readSpans_8 : decode cX7_readSpans 8 = .ok (.iaload, 1) := by decide +kernel
theorem dX7_readSpans_9 : decode cX7_readSpans 9 = .ok (.iconst 1, 1) := by decide +kernel
theorem dX7_readSpans_10 : decode cX7_readSpans 10 = .ok (.isub, 1) := by decide +kernel
theorem dX7_readSpans_11 : decode cX7_readSpans 11 = .ok (.istore_n 2, 1) := by decide +kernel
theorem dX7_readSpans_12 : decode cX7_readSpans 12 = .ok (.iconst 0, 1) := by decide +kernel
theorem dX7_readSpans_13 : decode cX7_readSpans 13 = .ok (.istore_n 3, 1) := by decide +kernel
theorem dX7_readSpans_14 : decode cX7_readSpans 14 = .ok (.iconst 0, 1) := by decide +kernel
theorem dX7_readSpans_15 : decode cX7_readSpans 15 = .ok (.istore 4, 2) := by decide +kernel
theorem dX7_readSpans_17 : decode cX7_readSpans 17 = .ok (.iload 4, 2) := by decide +kernel
theorem dX7_readSpans_19 : decode cX7_readSpans 19 = .ok (.sipush 400, 3) := by decide +kernel
theorem dX7_readSpans_22 : decode cX7_readSpans 22 = .ok (.if_icmp .ge 83, 3) := by decide +kernel
theorem dX7_readSpans_25 : decode cX7_readSpans 25 = .ok (.aload_n 0, 1) := by decide +kernel
theorem dX7_readSpans_26 : decode cX7_readSpans 26 = .ok (.invokevirtual 35, 3) := by decide +kernel
theorem dX7_readSpans_29 : decode cX7_readSpans 29 = .ok (.aload_n 0, 1) := by decide +kernel
theorem dX7_readSpans_30 : decode cX7_readSpans 30 = .ok (.iconst 0, 1) := by decide +kernel
theorem dX7_readSpans_31 : decode cX7_readSpans 31 = .ok (.iload_n 2, 1) := by decide +kernel
theorem dX7_readSpans_32 : decode cX7_readSpans 32 = .ok (.invokevirtual 105, 3) := by decide +kernel
theorem dX7_readSpans_35 : decode cX7_readSpans 35 = .ok (.istore 5, 2) := by decide +kernel
theorem dX7_readSpans_37 : decode cX7_readSpans 37 = .ok (.iload 5, 2) := by decide +kernel
theorem dX7_readSpans_39 : decode cX7_readSpans 39 = .ok (.iconst (-1), 1) := by decide +kernel
theorem dX7_readSpans_40 : decode cX7_readSpans 40 = .ok (.if_icmp .ne 5, 3) := by decide +kernel
theorem dX7_readSpans_43 : decode cX7_readSpans 43 = .ok (.iconst 0, 1) := by decide +kernel
theorem dX7_readSpans_44 : decode cX7_readSpans 44 = .ok (.ireturn, 1) := by decide +kernel
theorem dX7_readSpans_45 : decode cX7_readSpans 45 = .ok (.aload_n 0, 1) := by decide +kernel
theorem dX7_readSpans_46 : decode cX7_readSpans 46 = .ok (.bipush 45, 2) := by decide +kernel
theorem dX7_readSpans_48 : decode cX7_readSpans 48 = .ok (.invokevirtual 47, 3) := by decide +kernel
theorem dX7_readSpans_51 : decode cX7_readSpans 51 = .ok (.ifCond .eq 13, 3) := by decide +kernel
theorem dX7_readSpans_54 : decode cX7_readSpans 54 = .ok (.aload_n 0, 1) := by decide +kernel
theorem dX7_readSpans_55 : decode cX7_readSpans 55 = .ok (.iload 5, 2) := by decide +kernel
theorem dX7_readSpans_57 : decode cX7_readSpans 57 = .ok (.iload_n 2, 1) := by decide +kernel
theorem dX7_readSpans_58 : decode cX7_readSpans 58 = .ok (.invokevirtual 105, 3) := by decide +kernel
theorem dX7_readSpans_61 : decode cX7_readSpans 61 = .ok (.goto 5, 3) := by decide +kernel
theorem dX7_readSpans_64 : decode cX7_readSpans 64 = .ok (.iload 5, 2) := by decide +kernel
theorem dX7_readSpans_66 : decode cX7_readSpans 66 = .ok (.istore 6, 2) := by decide +kernel
theorem dX7_readSpans_68 : decode cX7_readSpans 68 = .ok (.iload 6, 2) := by decide +kernel
theorem dX7_readSpans_70 : decode cX7_readSpans 70 = .ok (.iconst (-1), 1) := by decide +kernel
theorem dX7_readSpans_71 : decode cX7_readSpans 71 = .ok (.if_icmp .ne 5, 3) := by decide +kernel
theorem dX7_readSpans_74 : decode cX7_readSpans 74 = .ok (.iconst 0, 1) := by decide +kernel
theorem dX7_readSpans_75 : decode cX7_readSpans 75 = .ok (.ireturn, 1) := by decide +kernel
theorem dX7_readSpans_76 : decode cX7_readSpans 76 = .ok (.iload_n 3, 1) := by decide +kernel
theorem dX7_readSpans_77 : decode cX7_readSpans 77 = .ok (.iconst 2, 1) := by decide +kernel
theorem dX7_readSpans_78 : decode cX7_readSpans 78 = .ok (.iload 6, 2) := by decide +kernel
theorem dX7_readSpans_80 : decode cX7_readSpans 80 = .ok (.ishl, 1) := by decide +kernel
theorem dX7_readSpans_81 : decode cX7_readSpans 81 = .ok (.iconst 1, 1) := by decide +kernel
theorem dX7_readSpans_82 : decode cX7_readSpans 82 = .ok (.iload 5, 2) := by decide +kernel
theorem dX7_readSpans_84 : decode cX7_readSpans 84 = .ok (.ishl, 1) := by decide +kernel
theorem dX7_readSpans_85 : decode cX7_readSpans 85 = .ok (.isub, 1) := by decide +kernel
theorem dX7_readSpans_86 : decode cX7_readSpans 86 = .ok (.ior, 1) := by decide +kernel
theorem dX7_readSpans_87 : decode cX7_readSpans 87 = .ok (.istore_n 3, 1) := by decide +kernel
theorem dX7_readSpans_88 : decode cX7_readSpans 88 = .ok (.aload_n 0, 1) := by decide +kernel
theorem dX7_readSpans_89 : decode cX7_readSpans 89 = .ok (.bipush 44, 2) := by decide +kernel
theorem dX7_readSpans_91 : decode cX7_readSpans 91 = .ok (.invokevirtual 141, 3) := by decide +kernel
theorem dX7_readSpans_94 : decode cX7_readSpans 94 = .ok (.ifCond .ne 5, 3) := by decide +kernel
theorem dX7_readSpans_97 : decode cX7_readSpans 97 = .ok (.iload_n 3, 1) := by decide +kernel
theorem dX7_readSpans_98 : decode cX7_readSpans 98 = .ok (.ireturn, 1) := by decide +kernel
theorem dX7_readSpans_99 : decode cX7_readSpans 99 = .ok (.iinc 4 1, 3) := by decide +kernel
theorem dX7_readSpans_102 : decode cX7_readSpans 102 = .ok (.goto (-85), 3) := by decide +kernel
theorem dX7_readSpans_105 : decode cX7_readSpans 105 = .ok (.iconst 0, 1) := by decide +kernel
theorem dX7_readSpans_106 : decode cX7_readSpans 106 = .ok (.ireturn, 1) := by decide +kernel
theorem dX6_allValues_0 : decode cX6_allValues 0 = .ok (.iconst 1, 1) := by decide +kernel
theorem dX6_allValues_1 : decode cX6_allValues 1 = .ok (.aload_n 0, 1) := by decide +kernel
theorem dX6_allValues_2 : decode cX6_allValues 2 = .ok (.getfield 9, 3) := by decide +kernel
theorem dX6_allValues_5 : decode cX6_allValues 5 = .ok (.iload_n 1, 1) := by decide +kernel
theorem dX6_allValues_6 : decode cX6_allValues 6 = .ok (.iaload, 1) := by decide +kernel
theorem dX6_allValues_7 : decode cX6_allValues 7 = .ok (.ishl, 1) := by decide +kernel
theorem dX6_allValues_8 : decode cX6_allValues 8 = .ok (.iconst 1, 1) := by decide +kernel
theorem dX6_allValues_9 : decode cX6_allValues 9 = .ok (.isub, 1) := by decide +kernel
theorem dX6_allValues_10 : decode cX6_allValues 10 = .ok (.ireturn, 1) := by decide +kernel
theorem dX7_readEdit_0 : decode cX7_readEdit 0 = .ok (.aload_n 0, 1) := by decide +kernel
theorem dX7_readEdit_1 : decode cX7_readEdit 1 = .ok (.getfield 15, 3) := by decide +kernel
theorem dX7_readEdit_4 : decode cX7_readEdit 4 = .ok (.getfield 73, 3) := by decide +kernel
theorem dX7_readEdit_7 : decode cX7_readEdit 7 = .ok (.iconst 5, 1) := by decide +kernel
theorem dX7_readEdit_8 : decode cX7_readEdit 8 = .ok (.imul, 1) := by decide +kernel
theorem dX7_readEdit_9 : decode cX7_readEdit 9 = .ok (.istore_n 1, 1) := by decide +kernel
theorem dX7_readEdit_10 : decode cX7_readEdit 10 = .ok (.iconst 0, 1) := by decide +kernel
theorem dX7_readEdit_11 : decode cX7_readEdit 11 = .ok (.istore_n 2, 1) := by decide +kernel
theorem dX7_readEdit_12 : decode cX7_readEdit 12 = .ok (.iload_n 2, 1) := by decide +kernel
theorem dX7_readEdit_13 : decode cX7_readEdit 13 = .ok (.aload_n 0, 1) := by decide +kernel
theorem dX7_readEdit_14 : decode cX7_readEdit 14 = .ok (.getfield 15, 3) := by decide +kernel
theorem dX7_readEdit_17 : decode cX7_readEdit 17 = .ok (.getfield 51, 3) := by decide +kernel
theorem dX7_readEdit_20 : decode cX7_readEdit 20 = .ok (.if_icmp .ge 28, 3) := by decide +kernel
theorem dX7_readEdit_23 : decode cX7_readEdit 23 = .ok (.aload_n 0, 1) := by decide +kernel
theorem dX7_readEdit_24 : decode cX7_readEdit 24 = .ok (.getfield 15, 3) := by decide +kernel
theorem dX7_readEdit_27 : decode cX7_readEdit 27 = .ok (.getfield 128, 3) := by decide +kernel
theorem dX7_readEdit_30 : decode cX7_readEdit 30 = .ok (.iload_n 1, 1) := by decide +kernel
theorem dX7_readEdit_31 : decode cX7_readEdit 31 = .ok (.iload_n 2, 1) := by decide +kernel
theorem dX7_readEdit_32 : decode cX7_readEdit 32 = .ok (.iadd, 1) := by decide +kernel
theorem dX7_readEdit_33 : decode cX7_readEdit 33 = .ok (.aload_n 0, 1) := by decide +kernel
theorem dX7_readEdit_34 : decode cX7_readEdit 34 = .ok (.getfield 15, 3) := by decide +kernel
theorem dX7_readEdit_37 : decode cX7_readEdit 37 = .ok (.iload_n 2, 1) := by decide +kernel
theorem dX7_readEdit_38 : decode cX7_readEdit 38 = .ok (.invokevirtual 131, 3) := by decide +kernel
theorem dX7_readEdit_41 : decode cX7_readEdit 41 = .ok (.iastore, 1) := by decide +kernel
theorem dX7_readEdit_42 : decode cX7_readEdit 42 = .ok (.iinc 2 1, 3) := by decide +kernel
theorem dX7_readEdit_45 : decode cX7_readEdit 45 = .ok (.goto (-33), 3) := by decide +kernel
theorem dX7_readEdit_48 : decode cX7_readEdit 48 = .ok (.aload_n 0, 1) := by decide +kernel
theorem dX7_readEdit_49 : decode cX7_readEdit 49 = .ok (.getfield 15, 3) := by decide +kernel
theorem dX7_readEdit_52 : decode cX7_readEdit 52 = .ok (.dup, 1) := by decide +kernel
theorem dX7_readEdit_53 : decode cX7_readEdit 53 = .ok (.getfield 73, 3) := by decide +kernel
theorem dX7_readEdit_56 : decode cX7_readEdit 56 = .ok (.iconst 1, 1) := by decide +kernel
theorem dX7_readEdit_57 : decode cX7_readEdit 57 = .ok (.iadd, 1) := by decide +kernel
theorem dX7_readEdit_58 : decode cX7_readEdit 58 = .ok (.putfield 73, 3) := by decide +kernel
theorem dX7_readEdit_61 : decode cX7_readEdit 61 = .ok (.iconst 0, 1) := by decide +kernel
theorem dX7_readEdit_62 : decode cX7_readEdit 62 = .ok (.istore_n 2, 1) := by decide +kernel
theorem dX7_readEdit_63 : decode cX7_readEdit 63 = .ok (.iconst 0, 1) := by decide +kernel
theorem dX7_readEdit_64 : decode cX7_readEdit 64 = .ok (.istore_n 3, 1) := by decide +kernel
theorem dX7_readEdit_65 : decode cX7_readEdit 65 = .ok (.iload_n 3, 1) := by decide +kernel
theorem dX7_readEdit_66 : decode cX7_readEdit 66 = .ok (.iconst 5, 1) := by decide +kernel
theorem dX7_readEdit_67 : decode cX7_readEdit 67 = .ok (.if_icmp .gt 104, 3) := by decide +kernel
theorem dX7_readEdit_70 : decode cX7_readEdit 70 = .ok (.aload_n 0, 1) := by decide +kernel
theorem dX7_readEdit_71 : decode cX7_readEdit 71 = .ok (.invokevirtual 35, 3) := by decide +kernel
theorem dX7_readEdit_74 : decode cX7_readEdit 74 = .ok (.aload_n 0, 1) := by decide +kernel
theorem dX7_readEdit_75 : decode cX7_readEdit 75 = .ok (.invokevirtual 90, 3) := by decide +kernel
theorem dX7_readEdit_78 : decode cX7_readEdit 78 = .ok (.istore 4, 2) := by decide +kernel
theorem dX7_readEdit_80 : decode cX7_readEdit 80 = .ok (.iload 4, 2) := by decide +kernel
theorem dX7_readEdit_82 : decode cX7_readEdit 82 = .ok (.iconst (-1), 1) := by decide +kernel
theorem dX7_readEdit_83 : decode cX7_readEdit 83 = .ok (.if_icmp .eq 12, 3) := by decide +kernel
theorem dX7_readEdit_86 : decode cX7_readEdit 86 = .ok (.iload_n 2, 1) := by decide +kernel
theorem dX7_readEdit_87 : decode cX7_readEdit 87 = .ok (.iload 4, 2) := by decide +kernel
theorem dX7_readEdit_89 : decode cX7_readEdit 89 = .ok (.ishr, 1) := by decide +kernel
theorem dX7_readEdit_90 : decode cX7_readEdit 90 = .ok (.iconst 1, 1) := by decide +kernel
theorem dX7_readEdit_91 : decode cX7_readEdit 91 = .ok (.iand, 1) := by decide +kernel
theorem dX7_readEdit_92 : decode cX7_readEdit 92 = .ok (.ifCond .eq 5, 3) := by decide +kernel
theorem dX7_readEdit_95 : decode cX7_readEdit 95 = .ok (.iconst 0, 1) := by decide +kernel
theorem dX7_readEdit_96 : decode cX7_readEdit 96 = .ok (.ireturn, 1) := by decide +kernel
theorem dX7_readEdit_97 : decode cX7_readEdit 97 = .ok (.iload_n 2, 1) := by decide +kernel
theorem dX7_readEdit_98 : decode cX7_readEdit 98 = .ok (.iconst 1, 1) := by decide +kernel
theorem dX7_readEdit_99 : decode cX7_readEdit 99 = .ok (.iload 4, 2) := by decide +kernel
theorem dX7_readEdit_101 : decode cX7_readEdit 101 = .ok (.ishl, 1) := by decide +kernel
theorem dX7_readEdit_102 : decode cX7_readEdit 102 = .ok (.ior, 1) := by decide +kernel
theorem dX7_readEdit_103 : decode cX7_readEdit 103 = .ok (.istore_n 2, 1) := by decide +kernel
theorem dX7_readEdit_104 : decode cX7_readEdit 104 = .ok (.aload_n 0, 1) := by decide +kernel
theorem dX7_readEdit_105 : decode cX7_readEdit 105 = .ok (.invokevirtual 35, 3) := by decide +kernel
theorem dX7_readEdit_108 : decode cX7_readEdit 108 = .ok (.aload_n 0, 1) := by decide +kernel
theorem dX7_readEdit_109 : decode cX7_readEdit 109 = .ok (.ldc 134, 2) := by decide +kernel
theorem dX7_readEdit_111 : decode cX7_readEdit 111 = .ok (.invokevirtual 56, 3) := by decide +kernel
theorem dX7_readEdit_114 : decode cX7_readEdit 114 = .ok (.ifCond .ne 5, 3) := by decide +kernel
theorem dX7_readEdit_117 : decode cX7_readEdit 117 = .ok (.iconst 0, 1) := by decide +kernel
theorem dX7_readEdit_118 : decode cX7_readEdit 118 = .ok (.ireturn, 1) := by decide +kernel
theorem dX7_readEdit_119 : decode cX7_readEdit 119 = .ok (.aload_n 0, 1) := by decide +kernel
theorem dX7_readEdit_120 : decode cX7_readEdit 120 = .ok (.getfield 15, 3) := by decide +kernel
theorem dX7_readEdit_123 : decode cX7_readEdit 123 = .ok (.getfield 128, 3) := by decide +kernel
theorem dX7_readEdit_126 : decode cX7_readEdit 126 = .ok (.iload_n 1, 1) := by decide +kernel
theorem dX7_readEdit_127 : decode cX7_readEdit 127 = .ok (.iload 4, 2) := by decide +kernel
theorem dX7_readEdit_129 : decode cX7_readEdit 129 = .ok (.iadd, 1) := by decide +kernel
theorem dX7_readEdit_130 : decode cX7_readEdit 130 = .ok (.aload_n 0, 1) := by decide +kernel
theorem dX7_readEdit_131 : decode cX7_readEdit 131 = .ok (.iload 4, 2) := by decide +kernel
theorem dX7_readEdit_133 : decode cX7_readEdit 133 = .ok (.invokevirtual 136, 3) := by decide +kernel
theorem dX7_readEdit_136 : decode cX7_readEdit 136 = .ok (.iastore, 1) := by decide +kernel
theorem dX7_readEdit_137 : decode cX7_readEdit 137 = .ok (.aload_n 0, 1) := by decide +kernel
theorem dX7_readEdit_138 : decode cX7_readEdit 138 = .ok (.getfield 15, 3) := by decide +kernel
theorem dX7_readEdit_141 : decode cX7_readEdit 141 = .ok (.getfield 128, 3) := by decide +kernel
theorem dX7_readEdit_144 : decode cX7_readEdit 144 = .ok (.iload_n 1, 1) := by decide +kernel
theorem dX7_readEdit_145 : decode cX7_readEdit 145 = .ok (.iload 4, 2) := by decide +kernel
theorem dX7_readEdit_147 : decode cX7_readEdit 147 = .ok (.iadd, 1) := by decide +kernel
theorem dX7_readEdit_148 : decode cX7_readEdit 148 = .ok (.iaload, 1) := by decide +kernel
theorem dX7_readEdit_149 : decode cX7_readEdit 149 = .ok (.ifCond .ne 5, 3) := by decide +kernel
theorem dX7_readEdit_152 : decode cX7_readEdit 152 = .ok (.iconst 0, 1) := by decide +kernel
theorem dX7_readEdit_153 : decode cX7_readEdit 153 = .ok (.ireturn, 1) := by decide +kernel
theorem dX7_readEdit_154 : decode cX7_readEdit 154 = .ok (.aload_n 0, 1) := by decide +kernel
theorem dX7_readEdit_155 : decode cX7_readEdit 155 = .ok (.ldc 139, 2) := by decide +kernel
theorem dX7_readEdit_157 : decode cX7_readEdit 157 = .ok (.invokevirtual 56, 3) := by decide +kernel
theorem dX7_readEdit_160 : decode cX7_readEdit 160 = .ok (.ifCond .ne 5, 3) := by decide +kernel
theorem dX7_readEdit_163 : decode cX7_readEdit 163 = .ok (.iconst 1, 1) := by decide +kernel
theorem dX7_readEdit_164 : decode cX7_readEdit 164 = .ok (.ireturn, 1) := by decide +kernel
theorem dX7_readEdit_165 : decode cX7_readEdit 165 = .ok (.iinc 3 1, 3) := by decide +kernel
theorem dX7_readEdit_168 : decode cX7_readEdit 168 = .ok (.goto (-103), 3) := by decide +kernel
theorem dX7_readEdit_171 : decode cX7_readEdit 171 = .ok (.iconst 0, 1) := by decide +kernel
theorem dX7_readEdit_172 : decode cX7_readEdit 172 = .ok (.ireturn, 1) := by decide +kernel
theorem dX7_readGroup_0 : decode cX7_readGroup 0 = .ok (.aload_n 0, 1) := by decide +kernel
theorem dX7_readGroup_1 : decode cX7_readGroup 1 = .ok (.invokevirtual 35, 3) := by decide +kernel
theorem dX7_readGroup_4 : decode cX7_readGroup 4 = .ok (.aload_n 0, 1) := by decide +kernel
theorem dX7_readGroup_5 : decode cX7_readGroup 5 = .ok (.invokevirtual 90, 3) := by decide +kernel
theorem dX7_readGroup_8 : decode cX7_readGroup 8 = .ok (.istore_n 1, 1) := by decide +kernel
theorem dX7_readGroup_9 : decode cX7_readGroup 9 = .ok (.iload_n 1, 1) := by decide +kernel
theorem dX7_readGroup_10 : decode cX7_readGroup 10 = .ok (.iconst (-1), 1) := by decide +kernel
theorem dX7_readGroup_11 : decode cX7_readGroup 11 = .ok (.if_icmp .ne 5, 3) := by decide +kernel
theorem dX7_readGroup_14 : decode cX7_readGroup 14 = .ok (.iconst 0, 1) := by decide +kernel
theorem dX7_readGroup_15 : decode cX7_readGroup 15 = .ok (.ireturn, 1) := by decide +kernel
theorem dX7_readGroup_16 : decode cX7_readGroup 16 = .ok (.aload_n 0, 1) := by decide +kernel
theorem dX7_readGroup_17 : decode cX7_readGroup 17 = .ok (.getfield 15, 3) := by decide +kernel
theorem dX7_readGroup_20 : decode cX7_readGroup 20 = .ok (.iload_n 1, 1) := by decide +kernel
theorem dX7_readGroup_21 : decode cX7_readGroup 21 = .ok (.putfield 65, 3) := by decide +kernel
theorem dX7_readGroup_24 : decode cX7_readGroup 24 = .ok (.aload_n 0, 1) := by decide +kernel
theorem dX7_readGroup_25 : decode cX7_readGroup 25 = .ok (.invokevirtual 35, 3) := by decide +kernel
theorem dX7_readGroup_28 : decode cX7_readGroup 28 = .ok (.iconst 1, 1) := by decide +kernel
theorem dX7_readGroup_29 : decode cX7_readGroup 29 = .ok (.ireturn, 1) := by decide +kernel
theorem dX7_isName_0 : decode cX7_isName 0 = .ok (.aload_n 0, 1) := by decide +kernel
theorem dX7_isName_1 : decode cX7_isName 1 = .ok (.ldc 54, 2) := by decide +kernel
theorem dX7_isName_3 : decode cX7_isName 3 = .ok (.invokevirtual 56, 3) := by decide +kernel
theorem dX7_isName_6 : decode cX7_isName 6 = .ok (.ifCond .ne 75, 3) := by decide +kernel
theorem dX7_isName_9 : decode cX7_isName 9 = .ok (.aload_n 0, 1) := by decide +kernel
theorem dX7_isName_10 : decode cX7_isName 10 = .ok (.ldc 98, 2) := by decide +kernel
theorem dX7_isName_12 : decode cX7_isName 12 = .ok (.invokevirtual 56, 3) := by decide +kernel
theorem dX7_isName_15 : decode cX7_isName 15 = .ok (.ifCond .ne 66, 3) := by decide +kernel
theorem dX7_isName_18 : decode cX7_isName 18 = .ok (.aload_n 0, 1) := by decide +kernel
theorem dX7_isName_19 : decode cX7_isName 19 = .ok (.ldc 100, 2) := by decide +kernel
theorem dX7_isName_21 : decode cX7_isName 21 = .ok (.invokevirtual 56, 3) := by decide +kernel
theorem dX7_isName_24 : decode cX7_isName 24 = .ok (.ifCond .ne 57, 3) := by decide +kernel
theorem dX7_isName_27 : decode cX7_isName 27 = .ok (.aload_n 0, 1) := by decide +kernel
theorem dX7_isName_28 : decode cX7_isName 28 = .ok (.ldc 109, 2) := by decide +kernel
theorem dX7_isName_30 : decode cX7_isName 30 = .ok (.invokevirtual 56, 3) := by decide +kernel
theorem dX7_isName_33 : decode cX7_isName 33 = .ok (.ifCond .ne 48, 3) := by decide +kernel
theorem dX7_isName_36 : decode cX7_isName 36 = .ok (.aload_n 0, 1) := by decide +kernel
theorem dX7_isName_37 : decode cX7_isName 37 = .ok (.ldc 63, 2) := by decide +kernel
theorem dX7_isName_39 : decode cX7_isName 39 = .ok (.invokevirtual 56, 3) := by decide +kernel
theorem dX7_isName_42 : decode cX7_isName 42 = .ok (.ifCond .ne 39, 3) := by decide +kernel
theorem dX7_isName_45 : decode cX7_isName 45 = .ok (.aload_n 0, 1) := by decide +kernel
theorem dX7_isName_46 : decode cX7_isName 46 = .ok (.ldc 71, 2) := by decide +kernel
theorem dX7_isName_48 : decode cX7_isName 48 = .ok (.invokevirtual 56, 3) := by decide +kernel
theorem dX7_isName_51 : decode cX7_isName 51 = .ok (.ifCond .ne 30, 3) := by decide +kernel
theorem dX7_isName_54 : decode cX7_isName 54 = .ok (.aload_n 0, 1) := by decide +kernel
theorem dX7_isName_55 : decode cX7_isName 55 = .ok (.ldc 139, 2) := by decide +kernel
theorem dX7_isName_57 : decode cX7_isName 57 = .ok (.invokevirtual 56, 3) := by decide +kernel
theorem dX7_isName_60 : decode cX7_isName 60 = .ok (.ifCond .ne 21, 3) := by decide +kernel
theorem dX7_isName_63 : decode cX7_isName 63 = .ok (.aload_n 0, 1) := by decide +kernel
theorem dX7_isName_64 : decode cX7_isName 64 = .ok (.ldc 134, 2) := by decide +kernel
theorem dX7_isName_66 : decode cX7_isName 66 = .ok (.invokevirtual 56, 3) := by decide +kernel
theorem dX7_isName_69 : decode cX7_isName 69 = .ok (.ifCond .ne 12, 3) := by decide +kernel
theorem dX7_isName_72 : decode cX7_isName 72 = .ok (.aload_n 0, 1) := by decide +kernel
theorem dX7_isName_73 : decode cX7_isName 73 = .ok (.ldc 79, 2) := by decide +kernel
theorem dX7_isName_75 : decode cX7_isName 75 = .ok (.invokevirtual 56, 3) := by decide +kernel
theorem dX7_isName_78 : decode cX7_isName 78 = .ok (.ifCond .eq 7, 3) := by decide +kernel
theorem dX7_isName_81 : decode cX7_isName 81 = .ok (.iconst 1, 1) := by decide +kernel
theorem dX7_isName_82 : decode cX7_isName 82 = .ok (.goto 4, 3) := by decide +kernel
theorem dX7_isName_85 : decode cX7_isName 85 = .ok (.iconst 0, 1) := by decide +kernel
theorem dX7_isName_86 : decode cX7_isName 86 = .ok (.istore_n 1, 1) := by decide +kernel
theorem dX7_isName_87 : decode cX7_isName 87 = .ok (.aload_n 0, 1) := by decide +kernel
theorem dX7_isName_88 : decode cX7_isName 88 = .ok (.getfield 9, 3) := by decide +kernel
theorem dX7_isName_91 : decode cX7_isName 91 = .ok (.aload_n 0, 1) := by decide +kernel
theorem dX7_isName_92 : decode cX7_isName 92 = .ok (.getfield 19, 3) := by decide +kernel
theorem dX7_isName_95 : decode cX7_isName 95 = .ok (.invokevirtual 124, 3) := by decide +kernel
theorem dX7_isName_98 : decode cX7_isName 98 = .ok (.invokestatic 157, 3) := by decide +kernel
theorem dX7_isName_101 : decode cX7_isName 101 = .ok (.ifCond .eq 25, 3) := by decide +kernel
theorem dX7_isName_104 : decode cX7_isName 104 = .ok (.aload_n 0, 1) := by decide +kernel
theorem dX7_isName_105 : decode cX7_isName 105 = .ok (.getfield 32, 3) := by decide +kernel
theorem dX7_isName_108 : decode cX7_isName 108 = .ok (.aload_n 0, 1) := by decide +kernel
theorem dX7_isName_109 : decode cX7_isName 109 = .ok (.getfield 19, 3) := by decide +kernel
theorem dX7_isName_112 : decode cX7_isName 112 = .ok (.isub, 1) := by decide +kernel
theorem dX7_isName_113 : decode cX7_isName 113 = .ok (.bipush 6, 2) := by decide +kernel
theorem dX7_isName_115 : decode cX7_isName 115 = .ok (.if_icmp .gt 11, 3) := by decide +kernel
theorem dX7_isName_118 : decode cX7_isName 118 = .ok (.iload_n 1, 1) := by decide +kernel
theorem dX7_isName_119 : decode cX7_isName 119 = .ok (.ifCond .ne 7, 3) := by decide +kernel
theorem dX7_isName_122 : decode cX7_isName 122 = .ok (.iconst 1, 1) := by decide +kernel
theorem dX7_isName_123 : decode cX7_isName 123 = .ok (.goto 4, 3) := by decide +kernel
theorem dX7_isName_126 : decode cX7_isName 126 = .ok (.iconst 0, 1) := by decide +kernel
theorem dX7_isName_127 : decode cX7_isName 127 = .ok (.ireturn, 1) := by decide +kernel
theorem dX7_keepName_0 : decode cX7_keepName 0 = .ok (.aload_n 0, 1) := by decide +kernel
theorem dX7_keepName_1 : decode cX7_keepName 1 = .ok (.getfield 32, 3) := by decide +kernel
theorem dX7_keepName_4 : decode cX7_keepName 4 = .ok (.aload_n 0, 1) := by decide +kernel
theorem dX7_keepName_5 : decode cX7_keepName 5 = .ok (.getfield 19, 3) := by decide +kernel
theorem dX7_keepName_8 : decode cX7_keepName 8 = .ok (.isub, 1) := by decide +kernel
theorem dX7_keepName_9 : decode cX7_keepName 9 = .ok (.istore_n 2, 1) := by decide +kernel
theorem dX7_keepName_10 : decode cX7_keepName 10 = .ok (.aload_n 0, 1) := by decide +kernel
theorem dX7_keepName_11 : decode cX7_keepName 11 = .ok (.getfield 15, 3) := by decide +kernel
theorem dX7_keepName_14 : decode cX7_keepName 14 = .ok (.getfield 117, 3) := by decide +kernel
theorem dX7_keepName_17 : decode cX7_keepName 17 = .ok (.iload_n 1, 1) := by decide +kernel
theorem dX7_keepName_18 : decode cX7_keepName 18 = .ok (.iload_n 2, 1) := by decide +kernel
theorem dX7_keepName_19 : decode cX7_keepName 19 = .ok (.iastore, 1) := by decide +kernel
theorem dX7_keepName_20 : decode cX7_keepName 20 = .ok (.iconst 0, 1) := by decide +kernel
theorem dX7_keepName_21 : decode cX7_keepName 21 = .ok (.istore_n 3, 1) := by decide +kernel
theorem dX7_keepName_22 : decode cX7_keepName 22 = .ok (.iload_n 3, 1) := by decide +kernel
theorem dX7_keepName_23 : decode cX7_keepName 23 = .ok (.iload_n 2, 1) := by decide +kernel
theorem dX7_keepName_24 : decode cX7_keepName 24 = .ok (.if_icmp .ge 43, 3) := by decide +kernel
theorem dX7_keepName_27 : decode cX7_keepName 27 = .ok (.iload_n 3, 1) := by decide +kernel
theorem dX7_keepName_28 : decode cX7_keepName 28 = .ok (.bipush 6, 2) := by decide +kernel
theorem dX7_keepName_30 : decode cX7_keepName 30 = .ok (.if_icmp .ge 37, 3) := by decide +kernel
theorem dX7_keepName_33 : decode cX7_keepName 33 = .ok (.aload_n 0, 1) := by decide +kernel
theorem dX7_keepName_34 : decode cX7_keepName 34 = .ok (.getfield 15, 3) := by decide +kernel
theorem dX7_keepName_37 : decode cX7_keepName 37 = .ok (.getfield 120, 3) := by decide +kernel
theorem dX7_keepName_40 : decode cX7_keepName 40 = .ok (.iload_n 1, 1) := by decide +kernel
theorem dX7_keepName_41 : decode cX7_keepName 41 = .ok (.bipush 6, 2) := by decide +kernel
theorem dX7_keepName_43 : decode cX7_keepName 43 = .ok (.imul, 1) := by decide +kernel
theorem dX7_keepName_44 : decode cX7_keepName 44 = .ok (.iload_n 3, 1) := by decide +kernel
theorem dX7_keepName_45 : decode cX7_keepName 45 = .ok (.iadd, 1) := by decide +kernel
theorem dX7_keepName_46 : decode cX7_keepName 46 = .ok (.aload_n 0, 1) := by decide +kernel
theorem dX7_keepName_47 : decode cX7_keepName 47 = .ok (.getfield 9, 3) := by decide +kernel
theorem dX7_keepName_50 : decode cX7_keepName 50 = .ok (.aload_n 0, 1) := by decide +kernel
theorem dX7_keepName_51 : decode cX7_keepName 51 = .ok (.getfield 19, 3) := by decide +kernel
theorem dX7_keepName_54 : decode cX7_keepName 54 = .ok (.iload_n 3, 1) := by decide +kernel
theorem dX7_keepName_55 : decode cX7_keepName 55 = .ok (.iadd, 1) := by decide +kernel
theorem dX7_keepName_56 : decode cX7_keepName 56 = .ok (.invokevirtual 124, 3) := by decide +kernel
theorem dX7_keepName_59 : decode cX7_keepName 59 = .ok (.i2b, 1) := by decide +kernel
theorem dX7_keepName_60 : decode cX7_keepName 60 = .ok (.bastore, 1) := by decide +kernel
theorem dX7_keepName_61 : decode cX7_keepName 61 = .ok (.iinc 3 1, 3) := by decide +kernel
theorem dX7_keepName_64 : decode cX7_keepName 64 = .ok (.goto (-42), 3) := by decide +kernel
theorem dX7_keepName_67 : decode cX7_keepName 67 = .ok (.return_, 1) := by decide +kernel
theorem dX7_readField_0 : decode cX7_readField 0 = .ok (.aload_n 0, 1) := by decide +kernel
theorem dX7_readField_1 : decode cX7_readField 1 = .ok (.getfield 15, 3) := by decide +kernel
theorem dX7_readField_4 : decode cX7_readField 4 = .ok (.getfield 51, 3) := by decide +kernel
theorem dX7_readField_7 : decode cX7_readField 7 = .ok (.istore_n 1, 1) := by decide +kernel
theorem dX7_readField_8 : decode cX7_readField 8 = .ok (.aload_n 0, 1) := by decide +kernel
theorem dX7_readField_9 : decode cX7_readField 9 = .ok (.invokevirtual 35, 3) := by decide +kernel
theorem dX7_readField_12 : decode cX7_readField 12 = .ok (.aload_n 0, 1) := by decide +kernel
theorem dX7_readField_13 : decode cX7_readField 13 = .ok (.invokevirtual 87, 3) := by decide +kernel
theorem dX7_readField_16 : decode cX7_readField 16 = .ok (.ifCond .eq 11, 3) := by decide +kernel
theorem dX7_readField_19 : decode cX7_readField 19 = .ok (.aload_n 0, 1) := by decide +kernel
theorem dX7_readField_20 : decode cX7_readField 20 = .ok (.invokevirtual 90, 3) := by decide +kernel
theorem dX7_readField_23 : decode cX7_readField 23 = .ok (.iconst (-1), 1) := by decide +kernel
theorem dX7_readField_24 : decode cX7_readField 24 = .ok (.if_icmp .eq 5, 3) := by decide +kernel
theorem dX7_readField_27 : decode cX7_readField 27 = .ok (.iconst 0, 1) := by decide +kernel
theorem dX7_readField_28 : decode cX7_readField 28 = .ok (.ireturn, 1) := by decide +kernel
theorem dX7_readField_29 : decode cX7_readField 29 = .ok (.aload_n 0, 1) := by decide +kernel
theorem dX7_readField_30 : decode cX7_readField 30 = .ok (.iload_n 1, 1) := by decide +kernel
theorem dX7_readField_31 : decode cX7_readField 31 = .ok (.invokevirtual 94, 3) := by decide +kernel
theorem dX7_readField_34 : decode cX7_readField 34 = .ok (.aload_n 0, 1) := by decide +kernel
theorem dX7_readField_35 : decode cX7_readField 35 = .ok (.invokevirtual 35, 3) := by decide +kernel
theorem dX7_readField_38 : decode cX7_readField 38 = .ok (.aload_n 0, 1) := by decide +kernel
theorem dX7_readField_39 : decode cX7_readField 39 = .ok (.ldc 98, 2) := by decide +kernel
theorem dX7_readField_41 : decode cX7_readField 41 = .ok (.invokevirtual 56, 3) := by decide +kernel
theorem dX7_readField_44 : decode cX7_readField 44 = .ok (.ifCond .ne 14, 3) := by decide +kernel
theorem dX7_readField_47 : decode cX7_readField 47 = .ok (.aload_n 0, 1) := by decide +kernel
theorem dX7_readField_48 : decode cX7_readField 48 = .ok (.ldc 100, 2) := by decide +kernel
theorem dX7_readField_50 : decode cX7_readField 50 = .ok (.invokevirtual 56, 3) := by decide +kernel
theorem dX7_readField_53 : decode cX7_readField 53 = .ok (.ifCond .ne 5, 3) := by decide +kernel
theorem dX7_readField_56 : decode cX7_readField 56 = .ok (.iconst 0, 1) := by decide +kernel
theorem dX7_readField_57 : decode cX7_readField 57 = .ok (.ireturn, 1) := by decide +kernel
theorem dX7_readField_58 : decode cX7_readField 58 = .ok (.aload_n 0, 1) := by decide +kernel
theorem dX7_readField_59 : decode cX7_readField 59 = .ok (.getfield 15, 3) := by decide +kernel
theorem dX7_readField_62 : decode cX7_readField 62 = .ok (.getfield 102, 3) := by decide +kernel
theorem dX7_readField_65 : decode cX7_readField 65 = .ok (.iload_n 1, 1) := by decide +kernel
theorem dX7_readField_66 : decode cX7_readField 66 = .ok (.aload_n 0, 1) := by decide +kernel
theorem dX7_readField_67 : decode cX7_readField 67 = .ok (.ldc 100, 2) := by decide +kernel
theorem dX7_readField_69 : decode cX7_readField 69 = .ok (.invokevirtual 56, 3) := by decide +kernel
theorem dX7_readField_72 : decode cX7_readField 72 = .ok (.ifCond .eq 7, 3) := by decide +kernel
theorem dX7_readField_75 : decode cX7_readField 75 = .ok (.iconst 1, 1) := by decide +kernel
theorem dX7_readField_76 : decode cX7_readField 76 = .ok (.goto 4, 3) := by decide +kernel
theorem dX7_readField_79 : decode cX7_readField 79 = .ok (.iconst 0, 1) := by decide +kernel
theorem dX7_readField_80 : decode cX7_readField 80 = .ok (.iastore, 1) := by decide +kernel
theorem dX7_readField_81 : decode cX7_readField 81 = .ok (.aload_n 0, 1) := by decide +kernel
theorem dX7_readField_82 : decode cX7_readField 82 = .ok (.invokevirtual 35, 3) := by decide +kernel
theorem dX7_readField_85 : decode cX7_readField 85 = .ok (.aload_n 0, 1) := by decide +kernel
theorem dX7_readField_86 : decode cX7_readField 86 = .ok (.iconst 2, 1) := by decide +kernel
theorem dX7_readField_87 : decode cX7_readField 87 = .ok (.iconst 5, 1) := by decide +kernel
theorem dX7_readField_88 : decode cX7_readField 88 = .ok (.invokevirtual 105, 3) := by decide +kernel
theorem dX7_readField_91 : decode cX7_readField 91 = .ok (.istore_n 2, 1) := by decide +kernel
theorem dX7_readField_92 : decode cX7_readField 92 = .ok (.iload_n 2, 1) := by decide +kernel
theorem dX7_readField_93 : decode cX7_readField 93 = .ok (.iconst (-1), 1) := by decide +kernel
theorem dX7_readField_94 : decode cX7_readField 94 = .ok (.if_icmp .ne 5, 3) := by decide +kernel
theorem dX7_readField_97 : decode cX7_readField 97 = .ok (.iconst 0, 1) := by decide +kernel
theorem dX7_readField_98 : decode cX7_readField 98 = .ok (.ireturn, 1) := by decide +kernel
theorem dX7_readField_99 : decode cX7_readField 99 = .ok (.iconst 1, 1) := by decide +kernel
theorem dX7_readField_100 : decode cX7_readField 100 = .ok (.istore_n 3, 1) := by decide +kernel
theorem dX7_readField_101 : decode cX7_readField 101 = .ok (.aload_n 0, 1) := by decide +kernel
theorem dX7_readField_102 : decode cX7_readField 102 = .ok (.ldc 109, 2) := by decide +kernel
theorem dX7_readField_104 : decode cX7_readField 104 = .ok (.invokevirtual 56, 3) := by decide +kernel
theorem dX7_readField_107 : decode cX7_readField 107 = .ok (.ifCond .eq 15, 3) := by decide +kernel
theorem dX7_readField_110 : decode cX7_readField 110 = .ok (.aload_n 0, 1) := by decide +kernel
theorem dX7_readField_111 : decode cX7_readField 111 = .ok (.invokevirtual 35, 3) := by decide +kernel
theorem dX7_readField_114 : decode cX7_readField 114 = .ok (.aload_n 0, 1) := by decide +kernel
theorem dX7_readField_115 : decode cX7_readField 115 = .ok (.iconst 1, 1) := by decide +kernel
theorem dX7_readField_116 : decode cX7_readField 116 = .ok (.bipush 9, 2) := by decide +kernel
theorem dX7_readField_118 : decode cX7_readField 118 = .ok (.invokevirtual 105, 3) := by decide +kernel
theorem dX7_readField_121 : decode cX7_readField 121 = .ok (.istore_n 3, 1) := by decide +kernel
theorem dX7_readField_122 : decode cX7_readField 122 = .ok (.aload_n 0, 1) := by decide +kernel
theorem dX7_readField_123 : decode cX7_readField 123 = .ok (.getfield 15, 3) := by decide +kernel
theorem dX7_readField_126 : decode cX7_readField 126 = .ok (.getfield 111, 3) := by decide +kernel
theorem dX7_readField_129 : decode cX7_readField 129 = .ok (.iload_n 1, 1) := by decide +kernel
theorem dX7_readField_130 : decode cX7_readField 130 = .ok (.iload_n 2, 1) := by decide +kernel
theorem dX7_readField_131 : decode cX7_readField 131 = .ok (.iastore, 1) := by decide +kernel
theorem dX7_readField_132 : decode cX7_readField 132 = .ok (.aload_n 0, 1) := by decide +kernel
theorem dX7_readField_133 : decode cX7_readField 133 = .ok (.getfield 15, 3) := by decide +kernel
theorem dX7_readField_136 : decode cX7_readField 136 = .ok (.getfield 114, 3) := by decide +kernel
theorem dX7_readField_139 : decode cX7_readField 139 = .ok (.iload_n 1, 1) := by decide +kernel
theorem dX7_readField_140 : decode cX7_readField 140 = .ok (.iload_n 3, 1) := by decide +kernel
theorem dX7_readField_141 : decode cX7_readField 141 = .ok (.iastore, 1) := by decide +kernel
theorem dX7_readField_142 : decode cX7_readField 142 = .ok (.aload_n 0, 1) := by decide +kernel
theorem dX7_readField_143 : decode cX7_readField 143 = .ok (.getfield 15, 3) := by decide +kernel
theorem dX7_readField_146 : decode cX7_readField 146 = .ok (.dup, 1) := by decide +kernel
theorem dX7_readField_147 : decode cX7_readField 147 = .ok (.getfield 51, 3) := by decide +kernel
theorem dX7_readField_150 : decode cX7_readField 150 = .ok (.iconst 1, 1) := by decide +kernel
theorem dX7_readField_151 : decode cX7_readField 151 = .ok (.iadd, 1) := by decide +kernel
theorem dX7_readField_152 : decode cX7_readField 152 = .ok (.putfield 51, 3) := by decide +kernel
theorem dX7_readField_155 : decode cX7_readField 155 = .ok (.iload_n 3, 1) := by decide +kernel
theorem dX7_readField_156 : decode cX7_readField 156 = .ok (.iconst (-1), 1) := by decide +kernel
theorem dX7_readField_157 : decode cX7_readField 157 = .ok (.if_icmp .eq 7, 3) := by decide +kernel
theorem dX7_readField_160 : decode cX7_readField 160 = .ok (.iconst 1, 1) := by decide +kernel
theorem dX7_readField_161 : decode cX7_readField 161 = .ok (.goto 4, 3) := by decide +kernel
theorem dX7_readField_164 : decode cX7_readField 164 = .ok (.iconst 0, 1) := by decide +kernel
theorem dX7_readField_165 : decode cX7_readField 165 = .ok (.ireturn, 1) := by decide +kernel
theorem dX7_readLine_0 : decode cX7_readLine 0 = .ok (.aload_n 0, 1) := by decide +kernel
theorem dX7_readLine_1 : decode cX7_readLine 1 = .ok (.ldc 54, 2) := by decide +kernel
theorem dX7_readLine_3 : decode cX7_readLine 3 = .ok (.invokevirtual 56, 3) := by decide +kernel
theorem dX7_readLine_6 : decode cX7_readLine 6 = .ok (.ifCond .eq 34, 3) := by decide +kernel
theorem dX7_readLine_9 : decode cX7_readLine 9 = .ok (.aload_n 0, 1) := by decide +kernel
theorem dX7_readLine_10 : decode cX7_readLine 10 = .ok (.getfield 28, 3) := by decide +kernel
theorem dX7_readLine_13 : decode cX7_readLine 13 = .ok (.ifCond .ne 25, 3) := by decide +kernel
theorem dX7_readLine_16 : decode cX7_readLine 16 = .ok (.aload_n 0, 1) := by decide +kernel
theorem dX7_readLine_17 : decode cX7_readLine 17 = .ok (.getfield 15, 3) := by decide +kernel
theorem dX7_readLine_20 : decode cX7_readLine 20 = .ok (.getfield 51, 3) := by decide +kernel
theorem dX7_readLine_23 : decode cX7_readLine 23 = .ok (.iconst 5, 1) := by decide +kernel
theorem dX7_readLine_24 : decode cX7_readLine 24 = .ok (.if_icmp .ge 14, 3) := by decide +kernel
theorem dX7_readLine_27 : decode cX7_readLine 27 = .ok (.aload_n 0, 1) := by decide +kernel
theorem dX7_readLine_28 : decode cX7_readLine 28 = .ok (.invokevirtual 60, 3) := by decide +kernel
theorem dX7_readLine_31 : decode cX7_readLine 31 = .ok (.ifCond .eq 7, 3) := by decide +kernel
theorem dX7_readLine_34 : decode cX7_readLine 34 = .ok (.iconst 1, 1) := by decide +kernel
theorem dX7_readLine_35 : decode cX7_readLine 35 = .ok (.goto 4, 3) := by decide +kernel
theorem dX7_readLine_38 : decode cX7_readLine 38 = .ok (.iconst 0, 1) := by decide +kernel
theorem dX7_readLine_39 : decode cX7_readLine 39 = .ok (.ireturn, 1) := by decide +kernel
theorem dX7_readLine_40 : decode cX7_readLine 40 = .ok (.aload_n 0, 1) := by decide +kernel
theorem dX7_readLine_41 : decode cX7_readLine 41 = .ok (.getfield 15, 3) := by decide +kernel
theorem dX7_readLine_44 : decode cX7_readLine 44 = .ok (.getfield 51, 3) := by decide +kernel
theorem dX7_readLine_47 : decode cX7_readLine 47 = .ok (.ifCond .ne 5, 3) := by decide +kernel
theorem dX7_readLine_50 : decode cX7_readLine 50 = .ok (.iconst 0, 1) := by decide +kernel
theorem dX7_readLine_51 : decode cX7_readLine 51 = .ok (.ireturn, 1) := by decide +kernel
theorem dX7_readLine_52 : decode cX7_readLine 52 = .ok (.aload_n 0, 1) := by decide +kernel
theorem dX7_readLine_53 : decode cX7_readLine 53 = .ok (.iconst 1, 1) := by decide +kernel
theorem dX7_readLine_54 : decode cX7_readLine 54 = .ok (.putfield 28, 3) := by decide +kernel
theorem dX7_readLine_57 : decode cX7_readLine 57 = .ok (.aload_n 0, 1) := by decide +kernel
theorem dX7_readLine_58 : decode cX7_readLine 58 = .ok (.ldc 63, 2) := by decide +kernel
theorem dX7_readLine_60 : decode cX7_readLine 60 = .ok (.invokevirtual 56, 3) := by decide +kernel
theorem dX7_readLine_63 : decode cX7_readLine 63 = .ok (.ifCond .eq 27, 3) := by decide +kernel
theorem dX7_readLine_66 : decode cX7_readLine 66 = .ok (.aload_n 0, 1) := by decide +kernel
theorem dX7_readLine_67 : decode cX7_readLine 67 = .ok (.getfield 15, 3) := by decide +kernel
theorem dX7_readLine_70 : decode cX7_readLine 70 = .ok (.getfield 65, 3) := by decide +kernel
theorem dX7_readLine_73 : decode cX7_readLine 73 = .ok (.iconst (-1), 1) := by decide +kernel
theorem dX7_readLine_74 : decode cX7_readLine 74 = .ok (.if_icmp .ne 14, 3) := by decide +kernel
theorem dX7_readLine_77 : decode cX7_readLine 77 = .ok (.aload_n 0, 1) := by decide +kernel
theorem dX7_readLine_78 : decode cX7_readLine 78 = .ok (.invokevirtual 68, 3) := by decide +kernel
theorem dX7_readLine_81 : decode cX7_readLine 81 = .ok (.ifCond .eq 7, 3) := by decide +kernel
theorem dX7_readLine_84 : decode cX7_readLine 84 = .ok (.iconst 1, 1) := by decide +kernel
theorem dX7_readLine_85 : decode cX7_readLine 85 = .ok (.goto 4, 3) := by decide +kernel
theorem dX7_readLine_88 : decode cX7_readLine 88 = .ok (.iconst 0, 1) := by decide +kernel
theorem dX7_readLine_89 : decode cX7_readLine 89 = .ok (.ireturn, 1) := by decide +kernel
theorem dX7_readLine_90 : decode cX7_readLine 90 = .ok (.aload_n 0, 1) := by decide +kernel
theorem dX7_readLine_91 : decode cX7_readLine 91 = .ok (.ldc 71, 2) := by decide +kernel
theorem dX7_readLine_93 : decode cX7_readLine 93 = .ok (.invokevirtual 56, 3) := by decide +kernel
theorem dX7_readLine_96 : decode cX7_readLine 96 = .ok (.ifCond .eq 28, 3) := by decide +kernel
theorem dX7_readLine_99 : decode cX7_readLine 99 = .ok (.aload_n 0, 1) := by decide +kernel
theorem dX7_readLine_100 : decode cX7_readLine 100 = .ok (.getfield 15, 3) := by decide +kernel
theorem dX7_readLine_103 : decode cX7_readLine 103 = .ok (.getfield 73, 3) := by decide +kernel
theorem dX7_readLine_106 : decode cX7_readLine 106 = .ok (.bipush 6, 2) := by decide +kernel
theorem dX7_readLine_108 : decode cX7_readLine 108 = .ok (.if_icmp .ge 14, 3) := by decide +kernel
theorem dX7_readLine_111 : decode cX7_readLine 111 = .ok (.aload_n 0, 1) := by decide +kernel
theorem dX7_readLine_112 : decode cX7_readLine 112 = .ok (.invokevirtual 76, 3) := by decide +kernel
theorem dX7_readLine_115 : decode cX7_readLine 115 = .ok (.ifCond .eq 7, 3) := by decide +kernel
theorem dX7_readLine_118 : decode cX7_readLine 118 = .ok (.iconst 1, 1) := by decide +kernel
theorem dX7_readLine_119 : decode cX7_readLine 119 = .ok (.goto 4, 3) := by decide +kernel
theorem dX7_readLine_122 : decode cX7_readLine 122 = .ok (.iconst 0, 1) := by decide +kernel
theorem dX7_readLine_123 : decode cX7_readLine 123 = .ok (.ireturn, 1) := by decide +kernel
theorem dX7_readLine_124 : decode cX7_readLine 124 = .ok (.aload_n 0, 1) := by decide +kernel
theorem dX7_readLine_125 : decode cX7_readLine 125 = .ok (.ldc 79, 2) := by decide +kernel
theorem dX7_readLine_127 : decode cX7_readLine 127 = .ok (.invokevirtual 56, 3) := by decide +kernel
theorem dX7_readLine_130 : decode cX7_readLine 130 = .ok (.ifCond .eq 26, 3) := by decide +kernel
theorem dX7_readLine_133 : decode cX7_readLine 133 = .ok (.aload_n 0, 1) := by decide +kernel
theorem dX7_readLine_134 : decode cX7_readLine 134 = .ok (.getfield 15, 3) := by decide +kernel
theorem dX7_readLine_137 : decode cX7_readLine 137 = .ok (.getfield 81, 3) := by decide +kernel
theorem dX7_readLine_140 : decode cX7_readLine 140 = .ok (.bipush 40, 2) := by decide +kernel
theorem dX7_readLine_142 : decode cX7_readLine 142 = .ok (.if_icmp .ge 14, 3) := by decide +kernel
theorem dX7_readLine_145 : decode cX7_readLine 145 = .ok (.aload_n 0, 1) := by decide +kernel
theorem dX7_readLine_146 : decode cX7_readLine 146 = .ok (.invokevirtual 84, 3) := by decide +kernel
theorem dX7_readLine_149 : decode cX7_readLine 149 = .ok (.ifCond .eq 7, 3) := by decide +kernel
theorem dX7_readLine_152 : decode cX7_readLine 152 = .ok (.iconst 1, 1) := by decide +kernel
theorem dX7_readLine_153 : decode cX7_readLine 153 = .ok (.goto 4, 3) := by decide +kernel
theorem dX7_readLine_156 : decode cX7_readLine 156 = .ok (.iconst 0, 1) := by decide +kernel
theorem dX7_readLine_157 : decode cX7_readLine 157 = .ok (.ireturn, 1) := by decide +kernel
theorem dX7_readText_0 : decode cX7_readText 0 = .ok (.aload_n 0, 1) := by decide +kernel
theorem dX7_readText_1 : decode cX7_readText 1 = .ok (.getfield 15, 3) := by decide +kernel
theorem dX7_readText_4 : decode cX7_readText 4 = .ok (.invokevirtual 23, 3) := by decide +kernel
theorem dX7_readText_7 : decode cX7_readText 7 = .ok (.aload_n 0, 1) := by decide +kernel
theorem dX7_readText_8 : decode cX7_readText 8 = .ok (.iconst 0, 1) := by decide +kernel
theorem dX7_readText_9 : decode cX7_readText 9 = .ok (.putfield 28, 3) := by decide +kernel
theorem dX7_readText_12 : decode cX7_readText 12 = .ok (.aload_n 0, 1) := by decide +kernel
theorem dX7_readText_13 : decode cX7_readText 13 = .ok (.iconst 0, 1) := by decide +kernel
theorem dX7_readText_14 : decode cX7_readText 14 = .ok (.putfield 32, 3) := by decide +kernel
theorem dX7_readText_17 : decode cX7_readText 17 = .ok (.aload_n 0, 1) := by decide +kernel
theorem dX7_readText_18 : decode cX7_readText 18 = .ok (.invokevirtual 35, 3) := by decide +kernel
theorem dX7_readText_21 : decode cX7_readText 21 = .ok (.iconst 0, 1) := by decide +kernel
theorem dX7_readText_22 : decode cX7_readText 22 = .ok (.istore_n 1, 1) := by decide +kernel
theorem dX7_readText_23 : decode cX7_readText 23 = .ok (.iload_n 1, 1) := by decide +kernel
theorem dX7_readText_24 : decode cX7_readText 24 = .ok (.sipush 400, 3) := by decide +kernel
theorem dX7_readText_27 : decode cX7_readText 27 = .ok (.if_icmp .ge 41, 3) := by decide +kernel
theorem dX7_readText_30 : decode cX7_readText 30 = .ok (.aload_n 0, 1) := by decide +kernel
theorem dX7_readText_31 : decode cX7_readText 31 = .ok (.getfield 19, 3) := by decide +kernel
theorem dX7_readText_34 : decode cX7_readText 34 = .ok (.aload_n 0, 1) := by decide +kernel
theorem dX7_readText_35 : decode cX7_readText 35 = .ok (.getfield 9, 3) := by decide +kernel
theorem dX7_readText_38 : decode cX7_readText 38 = .ok (.getfield 40, 3) := by decide +kernel
theorem dX7_readText_41 : decode cX7_readText 41 = .ok (.if_icmp .ge 27, 3) := by decide +kernel
theorem dX7_readText_44 : decode cX7_readText 44 = .ok (.aload_n 0, 1) := by decide +kernel
theorem dX7_readText_45 : decode cX7_readText 45 = .ok (.invokevirtual 43, 3) := by decide +kernel
theorem dX7_readText_48 : decode cX7_readText 48 = .ok (.ifCond .eq 12, 3) := by decide +kernel
theorem dX7_readText_51 : decode cX7_readText 51 = .ok (.aload_n 0, 1) := by decide +kernel
theorem dX7_readText_52 : decode cX7_readText 52 = .ok (.bipush 59, 2) := by decide +kernel
theorem dX7_readText_54 : decode cX7_readText 54 = .ok (.invokevirtual 47, 3) := by decide +kernel
theorem dX7_readText_57 : decode cX7_readText 57 = .ok (.ifCond .ne 5, 3) := by decide +kernel
theorem dX7_readText_60 : decode cX7_readText 60 = .ok (.iconst 0, 1) := by decide +kernel
theorem dX7_readText_61 : decode cX7_readText 61 = .ok (.ireturn, 1) := by decide +kernel
theorem dX7_readText_62 : decode cX7_readText 62 = .ok (.iinc 1 1, 3) := by decide +kernel
theorem dX7_readText_65 : decode cX7_readText 65 = .ok (.goto (-42), 3) := by decide +kernel
theorem dX7_readText_68 : decode cX7_readText 68 = .ok (.aload_n 0, 1) := by decide +kernel
theorem dX7_readText_69 : decode cX7_readText 69 = .ok (.getfield 15, 3) := by decide +kernel
theorem dX7_readText_72 : decode cX7_readText 72 = .ok (.getfield 51, 3) := by decide +kernel
theorem dX7_readText_75 : decode cX7_readText 75 = .ok (.ifCond .le 7, 3) := by decide +kernel
theorem dX7_readText_78 : decode cX7_readText 78 = .ok (.iconst 1, 1) := by decide +kernel
theorem dX7_readText_79 : decode cX7_readText 79 = .ok (.goto 4, 3) := by decide +kernel
theorem dX7_readText_82 : decode cX7_readText 82 = .ok (.iconst 0, 1) := by decide +kernel
theorem dX7_readText_83 : decode cX7_readText 83 = .ok (.ireturn, 1) := by decide +kernel
theorem dX7_place_0 : decode cX7_place 0 = .ok (.aload_n 0, 1) := by decide +kernel
theorem dX7_place_1 : decode cX7_place 1 = .ok (.getfield 19, 3) := by decide +kernel
theorem dX7_place_4 : decode cX7_place 4 = .ok (.ireturn, 1) := by decide +kernel
theorem dX6_copyFrom_0 : decode cX6_copyFrom 0 = .ok (.aload_n 0, 1) := by decide +kernel
theorem dX6_copyFrom_1 : decode cX6_copyFrom 1 = .ok (.aload_n 1, 1) := by decide +kernel
theorem dX6_copyFrom_2 : decode cX6_copyFrom 2 = .ok (.getfield 38, 3) := by decide +kernel
theorem dX6_copyFrom_5 : decode cX6_copyFrom 5 = .ok (.putfield 38, 3) := by decide +kernel
theorem dX6_copyFrom_8 : decode cX6_copyFrom 8 = .ok (.aload_n 1, 1) := by decide +kernel
theorem dX6_copyFrom_9 : decode cX6_copyFrom 9 = .ok (.getfield 9, 3) := by decide +kernel
theorem dX6_copyFrom_12 : decode cX6_copyFrom 12 = .ok (.iconst 0, 1) := by decide +kernel
theorem dX6_copyFrom_13 : decode cX6_copyFrom 13 = .ok (.aload_n 0, 1) := by decide +kernel
theorem dX6_copyFrom_14 : decode cX6_copyFrom 14 = .ok (.getfield 9, 3) := by decide +kernel
theorem dX6_copyFrom_17 : decode cX6_copyFrom 17 = .ok (.iconst 0, 1) := by decide +kernel
theorem dX6_copyFrom_18 : decode cX6_copyFrom 18 = .ok (.iconst 5, 1) := by decide +kernel
theorem dX6_copyFrom_19 : decode cX6_copyFrom 19 = .ok (.invokestatic 47, 3) := by decide +kernel
theorem dX6_copyFrom_22 : decode cX6_copyFrom 22 = .ok (.aload_n 1, 1) := by decide +kernel
theorem dX6_copyFrom_23 : decode cX6_copyFrom 23 = .ok (.getfield 15, 3) := by decide +kernel
theorem dX6_copyFrom_26 : decode cX6_copyFrom 26 = .ok (.iconst 0, 1) := by decide +kernel
theorem dX6_copyFrom_27 : decode cX6_copyFrom 27 = .ok (.aload_n 0, 1) := by decide +kernel
theorem dX6_copyFrom_28 : decode cX6_copyFrom 28 = .ok (.getfield 15, 3) := by decide +kernel
theorem dX6_copyFrom_31 : decode cX6_copyFrom 31 = .ok (.iconst 0, 1) := by decide +kernel
theorem dX6_copyFrom_32 : decode cX6_copyFrom 32 = .ok (.iconst 5, 1) := by decide +kernel
theorem dX6_copyFrom_33 : decode cX6_copyFrom 33 = .ok (.invokestatic 47, 3) := by decide +kernel
theorem dX6_copyFrom_36 : decode cX6_copyFrom 36 = .ok (.aload_n 1, 1) := by decide +kernel
theorem dX6_copyFrom_37 : decode cX6_copyFrom 37 = .ok (.getfield 18, 3) := by decide +kernel
theorem dX6_copyFrom_40 : decode cX6_copyFrom 40 = .ok (.iconst 0, 1) := by decide +kernel
theorem dX6_copyFrom_41 : decode cX6_copyFrom 41 = .ok (.aload_n 0, 1) := by decide +kernel
theorem dX6_copyFrom_42 : decode cX6_copyFrom 42 = .ok (.getfield 18, 3) := by decide +kernel
theorem dX6_copyFrom_45 : decode cX6_copyFrom 45 = .ok (.iconst 0, 1) := by decide +kernel
theorem dX6_copyFrom_46 : decode cX6_copyFrom 46 = .ok (.iconst 5, 1) := by decide +kernel
theorem dX6_copyFrom_47 : decode cX6_copyFrom 47 = .ok (.invokestatic 47, 3) := by decide +kernel
theorem dX6_copyFrom_50 : decode cX6_copyFrom 50 = .ok (.aload_n 1, 1) := by decide +kernel
theorem dX6_copyFrom_51 : decode cX6_copyFrom 51 = .ok (.getfield 21, 3) := by decide +kernel
theorem dX6_copyFrom_54 : decode cX6_copyFrom 54 = .ok (.iconst 0, 1) := by decide +kernel
theorem dX6_copyFrom_55 : decode cX6_copyFrom 55 = .ok (.aload_n 0, 1) := by decide +kernel
theorem dX6_copyFrom_56 : decode cX6_copyFrom 56 = .ok (.getfield 21, 3) := by decide +kernel
theorem dX6_copyFrom_59 : decode cX6_copyFrom 59 = .ok (.iconst 0, 1) := by decide +kernel
theorem dX6_copyFrom_60 : decode cX6_copyFrom 60 = .ok (.bipush 30, 2) := by decide +kernel
theorem dX6_copyFrom_62 : decode cX6_copyFrom 62 = .ok (.invokestatic 47, 3) := by decide +kernel
theorem dX6_copyFrom_65 : decode cX6_copyFrom 65 = .ok (.aload_n 1, 1) := by decide +kernel
theorem dX6_copyFrom_66 : decode cX6_copyFrom 66 = .ok (.getfield 25, 3) := by decide +kernel
theorem dX6_copyFrom_69 : decode cX6_copyFrom 69 = .ok (.iconst 0, 1) := by decide +kernel
theorem dX6_copyFrom_70 : decode cX6_copyFrom 70 = .ok (.aload_n 0, 1) := by decide +kernel
theorem dX6_copyFrom_71 : decode cX6_copyFrom 71 = .ok (.getfield 25, 3) := by decide +kernel
theorem dX6_copyFrom_74 : decode cX6_copyFrom 74 = .ok (.iconst 0, 1) := by decide +kernel
theorem dX6_copyFrom_75 : decode cX6_copyFrom 75 = .ok (.iconst 5, 1) := by decide +kernel
theorem dX6_copyFrom_76 : decode cX6_copyFrom 76 = .ok (.invokestatic 47, 3) := by decide +kernel
theorem dX6_copyFrom_79 : decode cX6_copyFrom 79 = .ok (.aload_n 0, 1) := by decide +kernel
theorem dX6_copyFrom_80 : decode cX6_copyFrom 80 = .ok (.aload_n 1, 1) := by decide +kernel
theorem dX6_copyFrom_81 : decode cX6_copyFrom 81 = .ok (.getfield 28, 3) := by decide +kernel
theorem dX6_copyFrom_84 : decode cX6_copyFrom 84 = .ok (.putfield 28, 3) := by decide +kernel
theorem dX6_copyFrom_87 : decode cX6_copyFrom 87 = .ok (.aload_n 0, 1) := by decide +kernel
theorem dX6_copyFrom_88 : decode cX6_copyFrom 88 = .ok (.aload_n 1, 1) := by decide +kernel
theorem dX6_copyFrom_89 : decode cX6_copyFrom 89 = .ok (.getfield 41, 3) := by decide +kernel
theorem dX6_copyFrom_92 : decode cX6_copyFrom 92 = .ok (.putfield 41, 3) := by decide +kernel
theorem dX6_copyFrom_95 : decode cX6_copyFrom 95 = .ok (.aload_n 1, 1) := by decide +kernel
theorem dX6_copyFrom_96 : decode cX6_copyFrom 96 = .ok (.getfield 32, 3) := by decide +kernel
theorem dX6_copyFrom_99 : decode cX6_copyFrom 99 = .ok (.iconst 0, 1) := by decide +kernel
theorem dX6_copyFrom_100 : decode cX6_copyFrom 100 = .ok (.aload_n 0, 1) := by decide +kernel
theorem dX6_copyFrom_101 : decode cX6_copyFrom 101 = .ok (.getfield 32, 3) := by decide +kernel
theorem dX6_copyFrom_104 : decode cX6_copyFrom 104 = .ok (.iconst 0, 1) := by decide +kernel
theorem dX6_copyFrom_105 : decode cX6_copyFrom 105 = .ok (.bipush 30, 2) := by decide +kernel
theorem dX6_copyFrom_107 : decode cX6_copyFrom 107 = .ok (.invokestatic 47, 3) := by decide +kernel
theorem dX6_copyFrom_110 : decode cX6_copyFrom 110 = .ok (.aload_n 0, 1) := by decide +kernel
theorem dX6_copyFrom_111 : decode cX6_copyFrom 111 = .ok (.aload_n 1, 1) := by decide +kernel
theorem dX6_copyFrom_112 : decode cX6_copyFrom 112 = .ok (.getfield 44, 3) := by decide +kernel
theorem dX6_copyFrom_115 : decode cX6_copyFrom 115 = .ok (.putfield 44, 3) := by decide +kernel
theorem dX6_copyFrom_118 : decode cX6_copyFrom 118 = .ok (.aload_n 1, 1) := by decide +kernel
theorem dX6_copyFrom_119 : decode cX6_copyFrom 119 = .ok (.getfield 35, 3) := by decide +kernel
theorem dX6_copyFrom_122 : decode cX6_copyFrom 122 = .ok (.iconst 0, 1) := by decide +kernel
theorem dX6_copyFrom_123 : decode cX6_copyFrom 123 = .ok (.aload_n 0, 1) := by decide +kernel
theorem dX6_copyFrom_124 : decode cX6_copyFrom 124 = .ok (.getfield 35, 3) := by decide +kernel
theorem dX6_copyFrom_127 : decode cX6_copyFrom 127 = .ok (.iconst 0, 1) := by decide +kernel
theorem dX6_copyFrom_128 : decode cX6_copyFrom 128 = .ok (.bipush 40, 2) := by decide +kernel
theorem dX6_copyFrom_130 : decode cX6_copyFrom 130 = .ok (.invokestatic 47, 3) := by decide +kernel
theorem dX6_copyFrom_133 : decode cX6_copyFrom 133 = .ok (.return_, 1) := by decide +kernel
theorem dX6_allFields_0 : decode cX6_allFields 0 = .ok (.iconst 1, 1) := by decide +kernel
theorem dX6_allFields_1 : decode cX6_allFields 1 = .ok (.aload_n 0, 1) := by decide +kernel
theorem dX6_allFields_2 : decode cX6_allFields 2 = .ok (.getfield 38, 3) := by decide +kernel
theorem dX6_allFields_5 : decode cX6_allFields 5 = .ok (.ishl, 1) := by decide +kernel
theorem dX6_allFields_6 : decode cX6_allFields 6 = .ok (.iconst 1, 1) := by decide +kernel
theorem dX6_allFields_7 : decode cX6_allFields 7 = .ok (.isub, 1) := by decide +kernel
theorem dX6_allFields_8 : decode cX6_allFields 8 = .ok (.ireturn, 1) := by decide +kernel
theorem dX6_weightOf_0 : decode cX6_weightOf 0 = .ok (.iconst 0, 1) := by decide +kernel
theorem dX6_weightOf_1 : decode cX6_weightOf 1 = .ok (.istore_n 2, 1) := by decide +kernel
theorem dX6_weightOf_2 : decode cX6_weightOf 2 = .ok (.iconst 0, 1) := by decide +kernel
theorem dX6_weightOf_3 : decode cX6_weightOf 3 = .ok (.istore_n 3, 1) := by decide +kernel
theorem dX6_weightOf_4 : decode cX6_weightOf 4 = .ok (.iload_n 3, 1) := by decide +kernel
theorem dX6_weightOf_5 : decode cX6_weightOf 5 = .ok (.aload_n 0, 1) := by decide +kernel
theorem dX6_weightOf_6 : decode cX6_weightOf 6 = .ok (.getfield 38, 3) := by decide +kernel
theorem dX6_weightOf_9 : decode cX6_weightOf 9 = .ok (.if_icmp .ge 26, 3) := by decide +kernel
theorem dX6_weightOf_12 : decode cX6_weightOf 12 = .ok (.iload_n 1, 1) := by decide +kernel
theorem dX6_weightOf_13 : decode cX6_weightOf 13 = .ok (.iload_n 3, 1) := by decide +kernel
theorem dX6_weightOf_14 : decode cX6_weightOf 14 = .ok (.ishr, 1) := by decide +kernel
theorem dX6_weightOf_15 : decode cX6_weightOf 15 = .ok (.iconst 1, 1) := by decide +kernel
theorem dX6_weightOf_16 : decode cX6_weightOf 16 = .ok (.iand, 1) := by decide +kernel
theorem dX6_weightOf_17 : decode cX6_weightOf 17 = .ok (.ifCond .eq 12, 3) := by decide +kernel
theorem dX6_weightOf_20 : decode cX6_weightOf 20 = .ok (.iload_n 2, 1) := by decide +kernel
theorem dX6_weightOf_21 : decode cX6_weightOf 21 = .ok (.aload_n 0, 1) := by decide +kernel
theorem dX6_weightOf_22 : decode cX6_weightOf 22 = .ok (.getfield 15, 3) := by decide +kernel
theorem dX6_weightOf_25 : decode cX6_weightOf 25 = .ok (.iload_n 3, 1) := by decide +kernel
theorem dX6_weightOf_26 : decode cX6_weightOf 26 = .ok (.iaload, 1) := by decide +kernel
theorem dX6_weightOf_27 : decode cX6_weightOf 27 = .ok (.iadd, 1) := by decide +kernel
theorem dX6_weightOf_28 : decode cX6_weightOf 28 = .ok (.istore_n 2, 1) := by decide +kernel
theorem dX6_weightOf_29 : decode cX6_weightOf 29 = .ok (.iinc 3 1, 3) := by decide +kernel
theorem dX6_weightOf_32 : decode cX6_weightOf 32 = .ok (.goto (-28), 3) := by decide +kernel
theorem dX6_weightOf_35 : decode cX6_weightOf 35 = .ok (.iload_n 2, 1) := by decide +kernel
theorem dX6_weightOf_36 : decode cX6_weightOf 36 = .ok (.ireturn, 1) := by decide +kernel
theorem dJ6_bitCount_0f7a4_0 : decode cJ6_bitCount_0f7a4 0 = .ok (.iload_n 0, 1) := by decide +kernel
theorem dJ6_bitCount_0f7a4_1 : decode cJ6_bitCount_0f7a4 1 = .ok (.iload_n 0, 1) := by decide +kernel
theorem dJ6_bitCount_0f7a4_2 : decode cJ6_bitCount_0f7a4 2 = .ok (.iconst 1, 1) := by decide +kernel
theorem dJ6_bitCount_0f7a4_3 : decode cJ6_bitCount_0f7a4 3 = .ok (.iushr, 1) := by decide +kernel
theorem dJ6_bitCount_0f7a4_4 : decode cJ6_bitCount_0f7a4 4 = .ok (.ldc_w 265, 3) := by decide +kernel
theorem dJ6_bitCount_0f7a4_7 : decode cJ6_bitCount_0f7a4 7 = .ok (.iand, 1) := by decide +kernel
theorem dJ6_bitCount_0f7a4_8 : decode cJ6_bitCount_0f7a4 8 = .ok (.isub, 1) := by decide +kernel
theorem dJ6_bitCount_0f7a4_9 : decode cJ6_bitCount_0f7a4 9 = .ok (.istore_n 0, 1) := by decide +kernel
theorem dJ6_bitCount_0f7a4_10 : decode cJ6_bitCount_0f7a4 10 = .ok (.iload_n 0, 1) := by decide +kernel
theorem dJ6_bitCount_0f7a4_11 : decode cJ6_bitCount_0f7a4 11 = .ok (.ldc_w 266, 3) := by decide +kernel
theorem dJ6_bitCount_0f7a4_14 : decode cJ6_bitCount_0f7a4 14 = .ok (.iand, 1) := by decide +kernel
theorem dJ6_bitCount_0f7a4_15 : decode cJ6_bitCount_0f7a4 15 = .ok (.iload_n 0, 1) := by decide +kernel
theorem dJ6_bitCount_0f7a4_16 : decode cJ6_bitCount_0f7a4 16 = .ok (.iconst 2, 1) := by decide +kernel
theorem dJ6_bitCount_0f7a4_17 : decode cJ6_bitCount_0f7a4 17 = .ok (.iushr, 1) := by decide +kernel
theorem dJ6_bitCount_0f7a4_18 : decode cJ6_bitCount_0f7a4 18 = .ok (.ldc_w 266, 3) := by decide +kernel
theorem dJ6_bitCount_0f7a4_21 : decode cJ6_bitCount_0f7a4 21 = .ok (.iand, 1) := by decide +kernel
theorem dJ6_bitCount_0f7a4_22 : decode cJ6_bitCount_0f7a4 22 = .ok (.iadd, 1) := by decide +kernel
theorem dJ6_bitCount_0f7a4_23 : decode cJ6_bitCount_0f7a4 23 = .ok (.istore_n 0, 1) := by decide +kernel
theorem dJ6_bitCount_0f7a4_24 : decode cJ6_bitCount_0f7a4 24 = .ok (.iload_n 0, 1) := by decide +kernel
theorem dJ6_bitCount_0f7a4_25 : decode cJ6_bitCount_0f7a4 25 = .ok (.iload_n 0, 1) := by decide +kernel
theorem dJ6_bitCount_0f7a4_26 : decode cJ6_bitCount_0f7a4 26 = .ok (.iconst 4, 1) := by decide +kernel
theorem dJ6_bitCount_0f7a4_27 : decode cJ6_bitCount_0f7a4 27 = .ok (.iushr, 1) := by decide +kernel
theorem dJ6_bitCount_0f7a4_28 : decode cJ6_bitCount_0f7a4 28 = .ok (.iadd, 1) := by decide +kernel
theorem dJ6_bitCount_0f7a4_29 : decode cJ6_bitCount_0f7a4 29 = .ok (.ldc_w 267, 3) := by decide +kernel
theorem dJ6_bitCount_0f7a4_32 : decode cJ6_bitCount_0f7a4 32 = .ok (.iand, 1) := by decide +kernel
theorem dJ6_bitCount_0f7a4_33 : decode cJ6_bitCount_0f7a4 33 = .ok (.istore_n 0, 1) := by decide +kernel
theorem dJ6_bitCount_0f7a4_34 : decode cJ6_bitCount_0f7a4 34 = .ok (.iload_n 0, 1) := by decide +kernel
theorem dJ6_bitCount_0f7a4_35 : decode cJ6_bitCount_0f7a4 35 = .ok (.iload_n 0, 1) := by decide +kernel
theorem dJ6_bitCount_0f7a4_36 : decode cJ6_bitCount_0f7a4 36 = .ok (.bipush 8, 2) := by decide +kernel
theorem dJ6_bitCount_0f7a4_38 : decode cJ6_bitCount_0f7a4 38 = .ok (.iushr, 1) := by decide +kernel
theorem dJ6_bitCount_0f7a4_39 : decode cJ6_bitCount_0f7a4 39 = .ok (.iadd, 1) := by decide +kernel
theorem dJ6_bitCount_0f7a4_40 : decode cJ6_bitCount_0f7a4 40 = .ok (.istore_n 0, 1) := by decide +kernel
theorem dJ6_bitCount_0f7a4_41 : decode cJ6_bitCount_0f7a4 41 = .ok (.iload_n 0, 1) := by decide +kernel
theorem dJ6_bitCount_0f7a4_42 : decode cJ6_bitCount_0f7a4 42 = .ok (.iload_n 0, 1) := by decide +kernel
theorem dJ6_bitCount_0f7a4_43 : decode cJ6_bitCount_0f7a4 43 = .ok (.bipush 16, 2) := by decide +kernel
theorem dJ6_bitCount_0f7a4_45 : decode cJ6_bitCount_0f7a4 45 = .ok (.iushr, 1) := by decide +kernel
theorem dJ6_bitCount_0f7a4_46 : decode cJ6_bitCount_0f7a4 46 = .ok (.iadd, 1) := by decide +kernel
theorem dJ6_bitCount_0f7a4_47 : decode cJ6_bitCount_0f7a4 47 = .ok (.istore_n 0, 1) := by decide +kernel
theorem dJ6_bitCount_0f7a4_48 : decode cJ6_bitCount_0f7a4 48 = .ok (.iload_n 0, 1) := by decide +kernel
theorem dJ6_bitCount_0f7a4_49 : decode cJ6_bitCount_0f7a4 49 = .ok (.bipush 63, 2) := by decide +kernel
theorem dJ6_bitCount_0f7a4_51 : decode cJ6_bitCount_0f7a4 51 = .ok (.iand, 1) := by decide +kernel
theorem dJ6_bitCount_0f7a4_52 : decode cJ6_bitCount_0f7a4 52 = .ok (.ireturn, 1) := by decide +kernel
theorem dX5_isLess_0 : decode cX5_isLess 0 = .ok (.aload_n 0, 1) := by decide +kernel
theorem dX5_isLess_1 : decode cX5_isLess 1 = .ok (.getfield 28, 3) := by decide +kernel
theorem dX5_isLess_4 : decode cX5_isLess 4 = .ok (.iload_n 1, 1) := by decide +kernel
theorem dX5_isLess_5 : decode cX5_isLess 5 = .ok (.invokevirtual 75, 3) := by decide +kernel
theorem dX5_isLess_8 : decode cX5_isLess 8 = .ok (.istore_n 3, 1) := by decide +kernel
theorem dX5_isLess_9 : decode cX5_isLess 9 = .ok (.aload_n 0, 1) := by decide +kernel
theorem dX5_isLess_10 : decode cX5_isLess 10 = .ok (.getfield 28, 3) := by decide +kernel
theorem dX5_isLess_13 : decode cX5_isLess 13 = .ok (.iload_n 2, 1) := by decide +kernel
theorem dX5_isLess_14 : decode cX5_isLess 14 = .ok (.invokevirtual 75, 3) := by decide +kernel
theorem dX5_isLess_17 : decode cX5_isLess 17 = .ok (.istore 4, 2) := by decide +kernel
theorem dX5_isLess_19 : decode cX5_isLess 19 = .ok (.iload_n 3, 1) := by decide +kernel
theorem dX5_isLess_20 : decode cX5_isLess 20 = .ok (.iload 4, 2) := by decide +kernel
theorem dX5_isLess_22 : decode cX5_isLess 22 = .ok (.if_icmp .lt 20, 3) := by decide +kernel
theorem dX5_isLess_25 : decode cX5_isLess 25 = .ok (.iload_n 3, 1) := by decide +kernel
theorem dX5_isLess_26 : decode cX5_isLess 26 = .ok (.iload 4, 2) := by decide +kernel
theorem dX5_isLess_28 : decode cX5_isLess 28 = .ok (.if_icmp .ne 18, 3) := by decide +kernel
theorem dX5_isLess_31 : decode cX5_isLess 31 = .ok (.iload_n 1, 1) := by decide +kernel
theorem dX5_isLess_32 : decode cX5_isLess 32 = .ok (.invokestatic 78, 3) := by decide +kernel
theorem dX5_isLess_35 : decode cX5_isLess 35 = .ok (.iload_n 2, 1) := by decide +kernel
theorem dX5_isLess_36 : decode cX5_isLess 36 = .ok (.invokestatic 78, 3) := by decide +kernel
theorem dX5_isLess_39 : decode cX5_isLess 39 = .ok (.if_icmp .ge 7, 3) := by decide +kernel
theorem dX5_isLess_42 : decode cX5_isLess 42 = .ok (.iconst 1, 1) := by decide +kernel
theorem dX5_isLess_43 : decode cX5_isLess 43 = .ok (.goto 4, 3) := by decide +kernel
theorem dX5_isLess_46 : decode cX5_isLess 46 = .ok (.iconst 0, 1) := by decide +kernel
theorem dX5_isLess_47 : decode cX5_isLess 47 = .ok (.ireturn, 1) := by decide +kernel
theorem dX5_sortSets_0 : decode cX5_sortSets 0 = .ok (.iconst 0, 1) := by decide +kernel
theorem dX5_sortSets_1 : decode cX5_sortSets 1 = .ok (.istore_n 1, 1) := by decide +kernel
theorem dX5_sortSets_2 : decode cX5_sortSets 2 = .ok (.iload_n 1, 1) := by decide +kernel
theorem dX5_sortSets_3 : decode cX5_sortSets 3 = .ok (.aload_n 0, 1) := by decide +kernel
theorem dX5_sortSets_4 : decode cX5_sortSets 4 = .ok (.getfield 28, 3) := by decide +kernel
theorem dX5_sortSets_7 : decode cX5_sortSets 7 = .ok (.invokevirtual 62, 3) := by decide +kernel
theorem dX5_sortSets_10 : decode cX5_sortSets 10 = .ok (.if_icmp .gt 58, 3) := by decide +kernel
theorem dX5_sortSets_13 : decode cX5_sortSets 13 = .ok (.iload_n 1, 1) := by decide +kernel
theorem dX5_sortSets_14 : decode cX5_sortSets 14 = .ok (.istore_n 2, 1) := by decide +kernel
theorem dX5_sortSets_15 : decode cX5_sortSets 15 = .ok (.iload_n 2, 1) := by decide +kernel
theorem dX5_sortSets_16 : decode cX5_sortSets 16 = .ok (.ifCond .le 39, 3) := by decide +kernel
theorem dX5_sortSets_19 : decode cX5_sortSets 19 = .ok (.aload_n 0, 1) := by decide +kernel
theorem dX5_sortSets_20 : decode cX5_sortSets 20 = .ok (.iload_n 1, 1) := by decide +kernel
theorem dX5_sortSets_21 : decode cX5_sortSets 21 = .ok (.aload_n 0, 1) := by decide +kernel
theorem dX5_sortSets_22 : decode cX5_sortSets 22 = .ok (.getfield 15, 3) := by decide +kernel
theorem dX5_sortSets_25 : decode cX5_sortSets 25 = .ok (.iload_n 2, 1) := by decide +kernel
theorem dX5_sortSets_26 : decode cX5_sortSets 26 = .ok (.iconst 1, 1) := by decide +kernel
theorem dX5_sortSets_27 : decode cX5_sortSets 27 = .ok (.isub, 1) := by decide +kernel
theorem dX5_sortSets_28 : decode cX5_sortSets 28 = .ok (.iaload, 1) := by decide +kernel
theorem dX5_sortSets_29 : decode cX5_sortSets 29 = .ok (.invokevirtual 71, 3) := by decide +kernel
theorem dX5_sortSets_32 : decode cX5_sortSets 32 = .ok (.ifCond .eq 23, 3) := by decide +kernel
theorem dX5_sortSets_35 : decode cX5_sortSets 35 = .ok (.aload_n 0, 1) := by decide +kernel
theorem dX5_sortSets_36 : decode cX5_sortSets 36 = .ok (.getfield 15, 3) := by decide +kernel
theorem dX5_sortSets_39 : decode cX5_sortSets 39 = .ok (.iload_n 2, 1) := by decide +kernel
theorem dX5_sortSets_40 : decode cX5_sortSets 40 = .ok (.aload_n 0, 1) := by decide +kernel
theorem dX5_sortSets_41 : decode cX5_sortSets 41 = .ok (.getfield 15, 3) := by decide +kernel
theorem dX5_sortSets_44 : decode cX5_sortSets 44 = .ok (.iload_n 2, 1) := by decide +kernel
theorem dX5_sortSets_45 : decode cX5_sortSets 45 = .ok (.iconst 1, 1) := by decide +kernel
theorem dX5_sortSets_46 : decode cX5_sortSets 46 = .ok (.isub, 1) := by decide +kernel
theorem dX5_sortSets_47 : decode cX5_sortSets 47 = .ok (.iaload, 1) := by decide +kernel
theorem dX5_sortSets_48 : decode cX5_sortSets 48 = .ok (.iastore, 1) := by decide +kernel
theorem dX5_sortSets_49 : decode cX5_sortSets 49 = .ok (.iinc 2 (-1), 3) := by decide +kernel
theorem dX5_sortSets_52 : decode cX5_sortSets 52 = .ok (.goto (-37), 3) := by decide +kernel
theorem dX5_sortSets_55 : decode cX5_sortSets 55 = .ok (.aload_n 0, 1) := by decide +kernel
theorem dX5_sortSets_56 : decode cX5_sortSets 56 = .ok (.getfield 15, 3) := by decide +kernel
theorem dX5_sortSets_59 : decode cX5_sortSets 59 = .ok (.iload_n 2, 1) := by decide +kernel
theorem dX5_sortSets_60 : decode cX5_sortSets 60 = .ok (.iload_n 1, 1) := by decide +kernel
theorem dX5_sortSets_61 : decode cX5_sortSets 61 = .ok (.iastore, 1) := by decide +kernel
theorem dX5_sortSets_62 : decode cX5_sortSets 62 = .ok (.iinc 1 1, 3) := by decide +kernel
theorem dX5_sortSets_65 : decode cX5_sortSets 65 = .ok (.goto (-63), 3) := by decide +kernel
theorem dX5_sortSets_68 : decode cX5_sortSets 68 = .ok (.return_, 1) := by decide +kernel
theorem dX6_allEdits_0 : decode cX6_allEdits 0 = .ok (.iconst 1, 1) := by decide +kernel
theorem dX6_allEdits_1 : decode cX6_allEdits 1 = .ok (.aload_n 0, 1) := by decide +kernel
theorem dX6_allEdits_2 : decode cX6_allEdits 2 = .ok (.getfield 41, 3) := by decide +kernel
theorem dX6_allEdits_5 : decode cX6_allEdits 5 = .ok (.ishl, 1) := by decide +kernel
theorem dX6_allEdits_6 : decode cX6_allEdits 6 = .ok (.iconst 1, 1) := by decide +kernel
theorem dX6_allEdits_7 : decode cX6_allEdits 7 = .ok (.isub, 1) := by decide +kernel
theorem dX6_allEdits_8 : decode cX6_allEdits 8 = .ok (.ireturn, 1) := by decide +kernel
theorem dJ7_fill_53178_0 : decode cJ7_fill_53178 0 = .ok (.iconst 0, 1) := by decide +kernel
theorem dJ7_fill_53178_1 : decode cJ7_fill_53178 1 = .ok (.istore_n 2, 1) := by decide +kernel
theorem dJ7_fill_53178_2 : decode cJ7_fill_53178 2 = .ok (.aload_n 0, 1) := by decide +kernel
theorem dJ7_fill_53178_3 : decode cJ7_fill_53178 3 = .ok (.arraylength, 1) := by decide +kernel
theorem dJ7_fill_53178_4 : decode cJ7_fill_53178 4 = .ok (.istore_n 3, 1) := by decide +kernel
theorem dJ7_fill_53178_5 : decode cJ7_fill_53178 5 = .ok (.iload_n 2, 1) := by decide +kernel
theorem dJ7_fill_53178_6 : decode cJ7_fill_53178 6 = .ok (.iload_n 3, 1) := by decide +kernel
theorem dJ7_fill_53178_7 : decode cJ7_fill_53178 7 = .ok (.if_icmp .ge 13, 3) := by decide +kernel
theorem dJ7_fill_53178_10 : decode cJ7_fill_53178 10 = .ok (.aload_n 0, 1) := by decide +kernel
theorem dJ7_fill_53178_11 : decode cJ7_fill_53178 11 = .ok (.iload_n 2, 1) := by decide +kernel
theorem dJ7_fill_53178_12 : decode cJ7_fill_53178 12 = .ok (.iload_n 1, 1) := by decide +kernel
theorem dJ7_fill_53178_13 : decode cJ7_fill_53178 13 = .ok (.iastore, 1) := by decide +kernel
theorem dJ7_fill_53178_14 : decode cJ7_fill_53178 14 = .ok (.iinc 2 1, 3) := by decide +kernel
theorem dJ7_fill_53178_17 : decode cJ7_fill_53178 17 = .ok (.goto (-12), 3) := by decide +kernel
theorem dJ7_fill_53178_20 : decode cJ7_fill_53178 20 = .ok (.return_, 1) := by decide +kernel
theorem dX5_editsOfAnswer_0 : decode cX5_editsOfAnswer 0 = .ok (.aload_n 0, 1) := by decide +kernel
theorem dX5_editsOfAnswer_1 : decode cX5_editsOfAnswer 1 = .ok (.getfield 11, 3) := by decide +kernel
theorem dX5_editsOfAnswer_4 : decode cX5_editsOfAnswer 4 = .ok (.iload_n 1, 1) := by decide +kernel
theorem dX5_editsOfAnswer_5 : decode cX5_editsOfAnswer 5 = .ok (.bipush 6, 2) := by decide +kernel
theorem dX5_editsOfAnswer_7 : decode cX5_editsOfAnswer 7 = .ok (.imul, 1) := by decide +kernel
theorem dX5_editsOfAnswer_8 : decode cX5_editsOfAnswer 8 = .ok (.iconst 1, 1) := by decide +kernel
theorem dX5_editsOfAnswer_9 : decode cX5_editsOfAnswer 9 = .ok (.iadd, 1) := by decide +kernel
theorem dX5_editsOfAnswer_10 : decode cX5_editsOfAnswer 10 = .ok (.iload_n 2, 1) := by decide +kernel
theorem dX5_editsOfAnswer_11 : decode cX5_editsOfAnswer 11 = .ok (.iadd, 1) := by decide +kernel
theorem dX5_editsOfAnswer_12 : decode cX5_editsOfAnswer 12 = .ok (.iaload, 1) := by decide +kernel
theorem dX5_editsOfAnswer_13 : decode cX5_editsOfAnswer 13 = .ok (.ireturn, 1) := by decide +kernel
theorem dX5_tallyField_0 : decode cX5_tallyField 0 = .ok (.aload_n 0, 1) := by decide +kernel
theorem dX5_tallyField_1 : decode cX5_tallyField 1 = .ok (.getfield 25, 3) := by decide +kernel
theorem dX5_tallyField_4 : decode cX5_tallyField 4 = .ok (.iconst 0, 1) := by decide +kernel
theorem dX5_tallyField_5 : decode cX5_tallyField 5 = .ok (.invokestatic 114, 3) := by decide +kernel
theorem dX5_tallyField_8 : decode cX5_tallyField 8 = .ok (.iconst 0, 1) := by decide +kernel
theorem dX5_tallyField_9 : decode cX5_tallyField 9 = .ok (.istore_n 2, 1) := by decide +kernel
theorem dX5_tallyField_10 : decode cX5_tallyField 10 = .ok (.iload_n 2, 1) := by decide +kernel
theorem dX5_tallyField_11 : decode cX5_tallyField 11 = .ok (.bipush 64, 2) := by decide +kernel
theorem dX5_tallyField_13 : decode cX5_tallyField 13 = .ok (.if_icmp .ge 61, 3) := by decide +kernel
theorem dX5_tallyField_16 : decode cX5_tallyField 16 = .ok (.aload_n 0, 1) := by decide +kernel
theorem dX5_tallyField_17 : decode cX5_tallyField 17 = .ok (.getfield 22, 3) := by decide +kernel
theorem dX5_tallyField_20 : decode cX5_tallyField 20 = .ok (.iload_n 2, 1) := by decide +kernel
theorem dX5_tallyField_21 : decode cX5_tallyField 21 = .ok (.iaload, 1) := by decide +kernel
theorem dX5_tallyField_22 : decode cX5_tallyField 22 = .ok (.ifCond .eq 46, 3) := by decide +kernel
theorem dX5_tallyField_25 : decode cX5_tallyField 25 = .ok (.iconst 0, 1) := by decide +kernel
theorem dX5_tallyField_26 : decode cX5_tallyField 26 = .ok (.istore_n 3, 1) := by decide +kernel
theorem dX5_tallyField_27 : decode cX5_tallyField 27 = .ok (.iload_n 3, 1) := by decide +kernel
theorem dX5_tallyField_28 : decode cX5_tallyField 28 = .ok (.aload_n 0, 1) := by decide +kernel
theorem dX5_tallyField_29 : decode cX5_tallyField 29 = .ok (.getfield 28, 3) := by decide +kernel
theorem dX5_tallyField_32 : decode cX5_tallyField 32 = .ok (.getfield 42, 3) := by decide +kernel
theorem dX5_tallyField_35 : decode cX5_tallyField 35 = .ok (.iload_n 1, 1) := by decide +kernel
theorem dX5_tallyField_36 : decode cX5_tallyField 36 = .ok (.iaload, 1) := by decide +kernel
theorem dX5_tallyField_37 : decode cX5_tallyField 37 = .ok (.if_icmp .ge 31, 3) := by decide +kernel
theorem dX5_tallyField_40 : decode cX5_tallyField 40 = .ok (.aload_n 0, 1) := by decide +kernel
theorem dX5_tallyField_41 : decode cX5_tallyField 41 = .ok (.getfield 25, 3) := by decide +kernel
theorem dX5_tallyField_44 : decode cX5_tallyField 44 = .ok (.iload_n 2, 1) := by decide +kernel
theorem dX5_tallyField_45 : decode cX5_tallyField 45 = .ok (.aload_n 0, 1) := by decide +kernel
theorem dX5_tallyField_46 : decode cX5_tallyField 46 = .ok (.iload_n 1, 1) := by decide +kernel
theorem dX5_tallyField_47 : decode cX5_tallyField 47 = .ok (.iload_n 3, 1) := by decide +kernel
theorem dX5_tallyField_48 : decode cX5_tallyField 48 = .ok (.invokevirtual 89, 3) := by decide +kernel
theorem dX5_tallyField_51 : decode cX5_tallyField 51 = .ok (.iand, 1) := by decide +kernel
theorem dX5_tallyField_52 : decode cX5_tallyField 52 = .ok (.dup2, 1) := by decide +kernel
theorem dX5_tallyField_53 : decode cX5_tallyField 53 = .ok (.iaload, 1) := by decide +kernel
theorem dX5_tallyField_54 : decode cX5_tallyField 54 = .ok (.aload_n 0, 1) := by decide +kernel
theorem dX5_tallyField_55 : decode cX5_tallyField 55 = .ok (.getfield 22, 3) := by decide +kernel
theorem dX5_tallyField_58 : decode cX5_tallyField 58 = .ok (.iload_n 2, 1) := by decide +kernel
theorem dX5_tallyField_59 : decode cX5_tallyField 59 = .ok (.iaload, 1) := by decide +kernel
theorem dX5_tallyField_60 : decode cX5_tallyField 60 = .ok (.iadd, 1) := by decide +kernel
theorem dX5_tallyField_61 : decode cX5_tallyField 61 = .ok (.iastore, 1) := by decide +kernel
theorem dX5_tallyField_62 : decode cX5_tallyField 62 = .ok (.iinc 3 1, 3) := by decide +kernel
theorem dX5_tallyField_65 : decode cX5_tallyField 65 = .ok (.goto (-38), 3) := by decide +kernel
theorem dX5_tallyField_68 : decode cX5_tallyField 68 = .ok (.iinc 2 1, 3) := by decide +kernel
theorem dX5_tallyField_71 : decode cX5_tallyField 71 = .ok (.goto (-61), 3) := by decide +kernel
theorem dX5_tallyField_74 : decode cX5_tallyField 74 = .ok (.aload_n 0, 1) := by decide +kernel
theorem dX5_tallyField_75 : decode cX5_tallyField 75 = .ok (.getfield 22, 3) := by decide +kernel
theorem dX5_tallyField_78 : decode cX5_tallyField 78 = .ok (.astore_n 2, 1) := by decide +kernel
theorem dX5_tallyField_79 : decode cX5_tallyField 79 = .ok (.aload_n 0, 1) := by decide +kernel
theorem dX5_tallyField_80 : decode cX5_tallyField 80 = .ok (.aload_n 0, 1) := by decide +kernel
theorem dX5_tallyField_81 : decode cX5_tallyField 81 = .ok (.getfield 25, 3) := by decide +kernel
theorem dX5_tallyField_84 : decode cX5_tallyField 84 = .ok (.putfield 22, 3) := by decide +kernel
theorem dX5_tallyField_87 : decode cX5_tallyField 87 = .ok (.aload_n 0, 1) := by decide +kernel
theorem dX5_tallyField_88 : decode cX5_tallyField 88 = .ok (.aload_n 2, 1) := by decide +kernel
theorem dX5_tallyField_89 : decode cX5_tallyField 89 = .ok (.putfield 25, 3) := by decide +kernel
theorem dX5_tallyField_92 : decode cX5_tallyField 92 = .ok (.return_, 1) := by decide +kernel
theorem dX5_tallyPassing_0 : decode cX5_tallyPassing 0 = .ok (.aload_n 0, 1) := by decide +kernel
theorem dX5_tallyPassing_1 : decode cX5_tallyPassing 1 = .ok (.getfield 22, 3) := by decide +kernel
theorem dX5_tallyPassing_4 : decode cX5_tallyPassing 4 = .ok (.iconst 0, 1) := by decide +kernel
theorem dX5_tallyPassing_5 : decode cX5_tallyPassing 5 = .ok (.invokestatic 114, 3) := by decide +kernel
theorem dX5_tallyPassing_8 : decode cX5_tallyPassing 8 = .ok (.aload_n 0, 1) := by decide +kernel
theorem dX5_tallyPassing_9 : decode cX5_tallyPassing 9 = .ok (.getfield 22, 3) := by decide +kernel
theorem dX5_tallyPassing_12 : decode cX5_tallyPassing 12 = .ok (.iload_n 1, 1) := by decide +kernel
theorem dX5_tallyPassing_13 : decode cX5_tallyPassing 13 = .ok (.iconst 1, 1) := by decide +kernel
theorem dX5_tallyPassing_14 : decode cX5_tallyPassing 14 = .ok (.iastore, 1) := by decide +kernel
theorem dX5_tallyPassing_15 : decode cX5_tallyPassing 15 = .ok (.iconst 0, 1) := by decide +kernel
theorem dX5_tallyPassing_16 : decode cX5_tallyPassing 16 = .ok (.istore_n 3, 1) := by decide +kernel
theorem dX5_tallyPassing_17 : decode cX5_tallyPassing 17 = .ok (.iload_n 3, 1) := by decide +kernel
theorem dX5_tallyPassing_18 : decode cX5_tallyPassing 18 = .ok (.aload_n 0, 1) := by decide +kernel
theorem dX5_tallyPassing_19 : decode cX5_tallyPassing 19 = .ok (.getfield 28, 3) := by decide +kernel
theorem dX5_tallyPassing_22 : decode cX5_tallyPassing 22 = .ok (.getfield 32, 3) := by decide +kernel
theorem dX5_tallyPassing_25 : decode cX5_tallyPassing 25 = .ok (.if_icmp .ge 22, 3) := by decide +kernel
theorem dX5_tallyPassing_28 : decode cX5_tallyPassing 28 = .ok (.iload_n 2, 1) := by decide +kernel
theorem dX5_tallyPassing_29 : decode cX5_tallyPassing 29 = .ok (.iload_n 3, 1) := by decide +kernel
theorem dX5_tallyPassing_30 : decode cX5_tallyPassing 30 = .ok (.ishr, 1) := by decide +kernel
theorem dX5_tallyPassing_31 : decode cX5_tallyPassing 31 = .ok (.iconst 1, 1) := by decide +kernel
theorem dX5_tallyPassing_32 : decode cX5_tallyPassing 32 = .ok (.iand, 1) := by decide +kernel
theorem dX5_tallyPassing_33 : decode cX5_tallyPassing 33 = .ok (.ifCond .eq 8, 3) := by decide +kernel
theorem dX5_tallyPassing_36 : decode cX5_tallyPassing 36 = .ok (.aload_n 0, 1) := by decide +kernel
theorem dX5_tallyPassing_37 : decode cX5_tallyPassing 37 = .ok (.iload_n 3, 1) := by decide +kernel
theorem dX5_tallyPassing_38 : decode cX5_tallyPassing 38 = .ok (.invokevirtual 120, 3) := by decide +kernel
theorem dX5_tallyPassing_41 : decode cX5_tallyPassing 41 = .ok (.iinc 3 1, 3) := by decide +kernel
theorem dX5_tallyPassing_44 : decode cX5_tallyPassing 44 = .ok (.goto (-27), 3) := by decide +kernel
theorem dX5_tallyPassing_47 : decode cX5_tallyPassing 47 = .ok (.aload_n 0, 1) := by decide +kernel
theorem dX5_tallyPassing_48 : decode cX5_tallyPassing 48 = .ok (.getfield 22, 3) := by decide +kernel
theorem dX5_tallyPassing_51 : decode cX5_tallyPassing 51 = .ok (.iconst 0, 1) := by decide +kernel
theorem dX5_tallyPassing_52 : decode cX5_tallyPassing 52 = .ok (.iaload, 1) := by decide +kernel
theorem dX5_tallyPassing_53 : decode cX5_tallyPassing 53 = .ok (.ireturn, 1) := by decide +kernel
theorem dX3_ahead_0 : decode cX3_ahead 0 = .ok (.lload_n 0, 1) := by decide +kernel
theorem dX3_ahead_1 : decode cX3_ahead 1 = .ok (.lstore_n 3, 1) := by decide +kernel
theorem dX3_ahead_2 : decode cX3_ahead 2 = .ok (.iconst 0, 1) := by decide +kernel
theorem dX3_ahead_3 : decode cX3_ahead 3 = .ok (.istore 5, 2) := by decide +kernel
theorem dX3_ahead_5 : decode cX3_ahead 5 = .ok (.iload 5, 2) := by decide +kernel
theorem dX3_ahead_7 : decode cX3_ahead 7 = .ok (.bipush 6, 2) := by decide +kernel
theorem dX3_ahead_9 : decode cX3_ahead 9 = .ok (.if_icmp .ge 40, 3) := by decide +kernel
theorem dX3_ahead_12 : decode cX3_ahead 12 = .ok (.iload_n 2, 1) := by decide +kernel
theorem dX3_ahead_13 : decode cX3_ahead 13 = .ok (.iload 5, 2) := by decide +kernel
theorem dX3_ahead_15 : decode cX3_ahead 15 = .ok (.ishr, 1) := by decide +kernel
theorem dX3_ahead_16 : decode cX3_ahead 16 = .ok (.iconst 1, 1) := by decide +kernel
theorem dX3_ahead_17 : decode cX3_ahead 17 = .ok (.iand, 1) := by decide +kernel
theorem dX3_ahead_18 : decode cX3_ahead 18 = .ok (.ifCond .ne 25, 3) := by decide +kernel
theorem dX3_ahead_21 : decode cX3_ahead 21 = .ok (.lload_n 3, 1) := by decide +kernel
theorem dX3_ahead_22 : decode cX3_ahead 22 = .ok (.getstatic 9, 3) := by decide +kernel
theorem dX3_ahead_25 : decode cX3_ahead 25 = .ok (.iload 5, 2) := by decide +kernel
theorem dX3_ahead_27 : decode cX3_ahead 27 = .ok (.laload, 1) := by decide +kernel
theorem dX3_ahead_28 : decode cX3_ahead 28 = .ok (.ldc2_w 15, 3) := by decide +kernel
theorem dX3_ahead_31 : decode cX3_ahead 31 = .ok (.lxor, 1) := by decide +kernel
theorem dX3_ahead_32 : decode cX3_ahead 32 = .ok (.land, 1) := by decide +kernel
theorem dX3_ahead_33 : decode cX3_ahead 33 = .ok (.lstore_n 3, 1) := by decide +kernel
theorem dX3_ahead_34 : decode cX3_ahead 34 = .ok (.lload_n 3, 1) := by decide +kernel
theorem dX3_ahead_35 : decode cX3_ahead 35 = .ok (.lload_n 3, 1) := by decide +kernel
theorem dX3_ahead_36 : decode cX3_ahead 36 = .ok (.iconst 1, 1) := by decide +kernel
theorem dX3_ahead_37 : decode cX3_ahead 37 = .ok (.iload 5, 2) := by decide +kernel
theorem dX3_ahead_39 : decode cX3_ahead 39 = .ok (.ishl, 1) := by decide +kernel
theorem dX3_ahead_40 : decode cX3_ahead 40 = .ok (.lshl, 1) := by decide +kernel
theorem dX3_ahead_41 : decode cX3_ahead 41 = .ok (.lor, 1) := by decide +kernel
theorem dX3_ahead_42 : decode cX3_ahead 42 = .ok (.lstore_n 3, 1) := by decide +kernel
theorem dX3_ahead_43 : decode cX3_ahead 43 = .ok (.iinc 5 1, 3) := by decide +kernel
theorem dX3_ahead_46 : decode cX3_ahead 46 = .ok (.goto (-41), 3) := by decide +kernel
theorem dX3_ahead_49 : decode cX3_ahead 49 = .ok (.lload_n 3, 1) := by decide +kernel
theorem dX3_ahead_50 : decode cX3_ahead 50 = .ok (.lreturn, 1) := by decide +kernel
theorem dX5_aheadOf_0 : decode cX5_aheadOf 0 = .ok (.lconst 0, 1) := by decide +kernel
theorem dX5_aheadOf_1 : decode cX5_aheadOf 1 = .ok (.lstore 5, 2) := by decide +kernel
theorem dX5_aheadOf_3 : decode cX5_aheadOf 3 = .ok (.iconst 0, 1) := by decide +kernel
theorem dX5_aheadOf_4 : decode cX5_aheadOf 4 = .ok (.istore 7, 2) := by decide +kernel
theorem dX5_aheadOf_6 : decode cX5_aheadOf 6 = .ok (.iload 7, 2) := by decide +kernel
theorem dX5_aheadOf_8 : decode cX5_aheadOf 8 = .ok (.aload_n 0, 1) := by decide +kernel
theorem dX5_aheadOf_9 : decode cX5_aheadOf 9 = .ok (.getfield 28, 3) := by decide +kernel
theorem dX5_aheadOf_12 : decode cX5_aheadOf 12 = .ok (.getfield 42, 3) := by decide +kernel
theorem dX5_aheadOf_15 : decode cX5_aheadOf 15 = .ok (.iload_n 3, 1) := by decide +kernel
theorem dX5_aheadOf_16 : decode cX5_aheadOf 16 = .ok (.iaload, 1) := by decide +kernel
theorem dX5_aheadOf_17 : decode cX5_aheadOf 17 = .ok (.if_icmp .ge 35, 3) := by decide +kernel
theorem dX5_aheadOf_20 : decode cX5_aheadOf 20 = .ok (.iload 4, 2) := by decide +kernel
theorem dX5_aheadOf_22 : decode cX5_aheadOf 22 = .ok (.iload 7, 2) := by decide +kernel
theorem dX5_aheadOf_24 : decode cX5_aheadOf 24 = .ok (.ishr, 1) := by decide +kernel
theorem dX5_aheadOf_25 : decode cX5_aheadOf 25 = .ok (.iconst 1, 1) := by decide +kernel
theorem dX5_aheadOf_26 : decode cX5_aheadOf 26 = .ok (.iand, 1) := by decide +kernel
theorem dX5_aheadOf_27 : decode cX5_aheadOf 27 = .ok (.ifCond .eq 19, 3) := by decide +kernel
theorem dX5_aheadOf_30 : decode cX5_aheadOf 30 = .ok (.lload 5, 2) := by decide +kernel
theorem dX5_aheadOf_32 : decode cX5_aheadOf 32 = .ok (.lload_n 1, 1) := by decide +kernel
theorem dX5_aheadOf_33 : decode cX5_aheadOf 33 = .ok (.aload_n 0, 1) := by decide +kernel
theorem dX5_aheadOf_34 : decode cX5_aheadOf 34 = .ok (.iload_n 3, 1) := by decide +kernel
theorem dX5_aheadOf_35 : decode cX5_aheadOf 35 = .ok (.iload 7, 2) := by decide +kernel
theorem dX5_aheadOf_37 : decode cX5_aheadOf 37 = .ok (.invokevirtual 89, 3) := by decide +kernel
theorem dX5_aheadOf_40 : decode cX5_aheadOf 40 = .ok (.invokestatic 92, 3) := by decide +kernel
theorem dX5_aheadOf_43 : decode cX5_aheadOf 43 = .ok (.lor, 1) := by decide +kernel
theorem dX5_aheadOf_44 : decode cX5_aheadOf 44 = .ok (.lstore 5, 2) := by decide +kernel
theorem dX5_aheadOf_46 : decode cX5_aheadOf 46 = .ok (.iinc 7 1, 3) := by decide +kernel
theorem dX5_aheadOf_49 : decode cX5_aheadOf 49 = .ok (.goto (-43), 3) := by decide +kernel
theorem dX5_aheadOf_52 : decode cX5_aheadOf 52 = .ok (.lload 5, 2) := by decide +kernel
theorem dX5_aheadOf_54 : decode cX5_aheadOf 54 = .ok (.lreturn, 1) := by decide +kernel
theorem dX6_editSet_0 : decode cX6_editSet 0 = .ok (.aload_n 0, 1) := by decide +kernel
theorem dX6_editSet_1 : decode cX6_editSet 1 = .ok (.getfield 32, 3) := by decide +kernel
theorem dX6_editSet_4 : decode cX6_editSet 4 = .ok (.iload_n 1, 1) := by decide +kernel
theorem dX6_editSet_5 : decode cX6_editSet 5 = .ok (.iconst 5, 1) := by decide +kernel
theorem dX6_editSet_6 : decode cX6_editSet 6 = .ok (.imul, 1) := by decide +kernel
theorem dX6_editSet_7 : decode cX6_editSet 7 = .ok (.iload_n 2, 1) := by decide +kernel
theorem dX6_editSet_8 : decode cX6_editSet 8 = .ok (.iadd, 1) := by decide +kernel
theorem dX6_editSet_9 : decode cX6_editSet 9 = .ok (.iaload, 1) := by decide +kernel
theorem dX6_editSet_10 : decode cX6_editSet 10 = .ok (.ireturn, 1) := by decide +kernel
theorem dX5_editsWith_0 : decode cX5_editsWith 0 = .ok (.iconst 0, 1) := by decide +kernel
theorem dX5_editsWith_1 : decode cX5_editsWith 1 = .ok (.istore_n 3, 1) := by decide +kernel
theorem dX5_editsWith_2 : decode cX5_editsWith 2 = .ok (.iconst 0, 1) := by decide +kernel
theorem dX5_editsWith_3 : decode cX5_editsWith 3 = .ok (.istore 4, 2) := by decide +kernel
theorem dX5_editsWith_5 : decode cX5_editsWith 5 = .ok (.iload 4, 2) := by decide +kernel
theorem dX5_editsWith_7 : decode cX5_editsWith 7 = .ok (.aload_n 0, 1) := by decide +kernel
theorem dX5_editsWith_8 : decode cX5_editsWith 8 = .ok (.getfield 28, 3) := by decide +kernel
theorem dX5_editsWith_11 : decode cX5_editsWith 11 = .ok (.getfield 83, 3) := by decide +kernel
theorem dX5_editsWith_14 : decode cX5_editsWith 14 = .ok (.if_icmp .ge 33, 3) := by decide +kernel
theorem dX5_editsWith_17 : decode cX5_editsWith 17 = .ok (.aload_n 0, 1) := by decide +kernel
theorem dX5_editsWith_18 : decode cX5_editsWith 18 = .ok (.getfield 28, 3) := by decide +kernel
theorem dX5_editsWith_21 : decode cX5_editsWith 21 = .ok (.iload 4, 2) := by decide +kernel
theorem dX5_editsWith_23 : decode cX5_editsWith 23 = .ok (.iload_n 1, 1) := by decide +kernel
theorem dX5_editsWith_24 : decode cX5_editsWith 24 = .ok (.invokevirtual 86, 3) := by decide +kernel
theorem dX5_editsWith_27 : decode cX5_editsWith 27 = .ok (.iload_n 2, 1) := by decide +kernel
theorem dX5_editsWith_28 : decode cX5_editsWith 28 = .ok (.ishr, 1) := by decide +kernel
theorem dX5_editsWith_29 : decode cX5_editsWith 29 = .ok (.iconst 1, 1) := by decide +kernel
theorem dX5_editsWith_30 : decode cX5_editsWith 30 = .ok (.iand, 1) := by decide +kernel
theorem dX5_editsWith_31 : decode cX5_editsWith 31 = .ok (.ifCond .eq 10, 3) := by decide +kernel
theorem dX5_editsWith_34 : decode cX5_editsWith 34 = .ok (.iload_n 3, 1) := by decide +kernel
theorem dX5_editsWith_35 : decode cX5_editsWith 35 = .ok (.iconst 1, 1) := by decide +kernel
theorem dX5_editsWith_36 : decode cX5_editsWith 36 = .ok (.iload 4, 2) := by decide +kernel
theorem dX5_editsWith_38 : decode cX5_editsWith 38 = .ok (.ishl, 1) := by decide +kernel
theorem dX5_editsWith_39 : decode cX5_editsWith 39 = .ok (.ior, 1) := by decide +kernel
theorem dX5_editsWith_40 : decode cX5_editsWith 40 = .ok (.istore_n 3, 1) := by decide +kernel
theorem dX5_editsWith_41 : decode cX5_editsWith 41 = .ok (.iinc 4 1, 3) := by decide +kernel
theorem dX5_editsWith_44 : decode cX5_editsWith 44 = .ok (.goto (-39), 3) := by decide +kernel
theorem dX5_editsWith_47 : decode cX5_editsWith 47 = .ok (.iload_n 3, 1) := by decide +kernel
theorem dX5_editsWith_48 : decode cX5_editsWith 48 = .ok (.ireturn, 1) := by decide +kernel
theorem dX5_prepare_0 : decode cX5_prepare 0 = .ok (.iconst 0, 1) := by decide +kernel
theorem dX5_prepare_1 : decode cX5_prepare 1 = .ok (.istore_n 1, 1) := by decide +kernel
theorem dX5_prepare_2 : decode cX5_prepare 2 = .ok (.iload_n 1, 1) := by decide +kernel
theorem dX5_prepare_3 : decode cX5_prepare 3 = .ok (.aload_n 0, 1) := by decide +kernel
theorem dX5_prepare_4 : decode cX5_prepare 4 = .ok (.getfield 28, 3) := by decide +kernel
theorem dX5_prepare_7 : decode cX5_prepare 7 = .ok (.getfield 32, 3) := by decide +kernel
theorem dX5_prepare_10 : decode cX5_prepare 10 = .ok (.if_icmp .ge 76, 3) := by decide +kernel
theorem dX5_prepare_13 : decode cX5_prepare 13 = .ok (.aload_n 0, 1) := by decide +kernel
theorem dX5_prepare_14 : decode cX5_prepare 14 = .ok (.getfield 28, 3) := by decide +kernel
theorem dX5_prepare_17 : decode cX5_prepare 17 = .ok (.invokevirtual 38, 3) := by decide +kernel
theorem dX5_prepare_20 : decode cX5_prepare 20 = .ok (.istore_n 2, 1) := by decide +kernel
theorem dX5_prepare_21 : decode cX5_prepare 21 = .ok (.iconst 0, 1) := by decide +kernel
theorem dX5_prepare_22 : decode cX5_prepare 22 = .ok (.istore_n 3, 1) := by decide +kernel
theorem dX5_prepare_23 : decode cX5_prepare 23 = .ok (.iload_n 3, 1) := by decide +kernel
theorem dX5_prepare_24 : decode cX5_prepare 24 = .ok (.aload_n 0, 1) := by decide +kernel
theorem dX5_prepare_25 : decode cX5_prepare 25 = .ok (.getfield 28, 3) := by decide +kernel
theorem dX5_prepare_28 : decode cX5_prepare 28 = .ok (.getfield 42, 3) := by decide +kernel
theorem dX5_prepare_31 : decode cX5_prepare 31 = .ok (.iload_n 1, 1) := by decide +kernel
theorem dX5_prepare_32 : decode cX5_prepare 32 = .ok (.iaload, 1) := by decide +kernel
theorem dX5_prepare_33 : decode cX5_prepare 33 = .ok (.if_icmp .ge 37, 3) := by decide +kernel
theorem dX5_prepare_36 : decode cX5_prepare 36 = .ok (.aload_n 0, 1) := by decide +kernel
theorem dX5_prepare_37 : decode cX5_prepare 37 = .ok (.iload_n 1, 1) := by decide +kernel
theorem dX5_prepare_38 : decode cX5_prepare 38 = .ok (.iload_n 3, 1) := by decide +kernel
theorem dX5_prepare_39 : decode cX5_prepare 39 = .ok (.invokevirtual 45, 3) := by decide +kernel
theorem dX5_prepare_42 : decode cX5_prepare 42 = .ok (.istore 4, 2) := by decide +kernel
theorem dX5_prepare_44 : decode cX5_prepare 44 = .ok (.aload_n 0, 1) := by decide +kernel
theorem dX5_prepare_45 : decode cX5_prepare 45 = .ok (.getfield 11, 3) := by decide +kernel
theorem dX5_prepare_48 : decode cX5_prepare 48 = .ok (.iload_n 1, 1) := by decide +kernel
theorem dX5_prepare_49 : decode cX5_prepare 49 = .ok (.bipush 6, 2) := by decide +kernel
theorem dX5_prepare_51 : decode cX5_prepare 51 = .ok (.imul, 1) := by decide +kernel
theorem dX5_prepare_52 : decode cX5_prepare 52 = .ok (.iconst 1, 1) := by decide +kernel
theorem dX5_prepare_53 : decode cX5_prepare 53 = .ok (.iadd, 1) := by decide +kernel
theorem dX5_prepare_54 : decode cX5_prepare 54 = .ok (.iload_n 3, 1) := by decide +kernel
theorem dX5_prepare_55 : decode cX5_prepare 55 = .ok (.iadd, 1) := by decide +kernel
theorem dX5_prepare_56 : decode cX5_prepare 56 = .ok (.iload 4, 2) := by decide +kernel
theorem dX5_prepare_58 : decode cX5_prepare 58 = .ok (.iastore, 1) := by decide +kernel
theorem dX5_prepare_59 : decode cX5_prepare 59 = .ok (.iload_n 2, 1) := by decide +kernel
theorem dX5_prepare_60 : decode cX5_prepare 60 = .ok (.iload 4, 2) := by decide +kernel
theorem dX5_prepare_62 : decode cX5_prepare 62 = .ok (.iand, 1) := by decide +kernel
theorem dX5_prepare_63 : decode cX5_prepare 63 = .ok (.istore_n 2, 1) := by decide +kernel
theorem dX5_prepare_64 : decode cX5_prepare 64 = .ok (.iinc 3 1, 3) := by decide +kernel
theorem dX5_prepare_67 : decode cX5_prepare 67 = .ok (.goto (-44), 3) := by decide +kernel
theorem dX5_prepare_70 : decode cX5_prepare 70 = .ok (.aload_n 0, 1) := by decide +kernel
theorem dX5_prepare_71 : decode cX5_prepare 71 = .ok (.getfield 11, 3) := by decide +kernel
theorem dX5_prepare_74 : decode cX5_prepare 74 = .ok (.iload_n 1, 1) := by decide +kernel
theorem dX5_prepare_75 : decode cX5_prepare 75 = .ok (.bipush 6, 2) := by decide +kernel
theorem dX5_prepare_77 : decode cX5_prepare 77 = .ok (.imul, 1) := by decide +kernel
theorem dX5_prepare_78 : decode cX5_prepare 78 = .ok (.iload_n 2, 1) := by decide +kernel
theorem dX5_prepare_79 : decode cX5_prepare 79 = .ok (.iastore, 1) := by decide +kernel
theorem dX5_prepare_80 : decode cX5_prepare 80 = .ok (.iinc 1 1, 3) := by decide +kernel
theorem dX5_prepare_83 : decode cX5_prepare 83 = .ok (.goto (-81), 3) := by decide +kernel
theorem dX5_prepare_86 : decode cX5_prepare 86 = .ok (.aload_n 0, 1) := by decide +kernel
theorem dX5_prepare_87 : decode cX5_prepare 87 = .ok (.getfield 18, 3) := by decide +kernel
theorem dX5_prepare_90 : decode cX5_prepare 90 = .ok (.iconst 0, 1) := by decide +kernel
theorem dX5_prepare_91 : decode cX5_prepare 91 = .ok (.lconst 1, 1) := by decide +kernel
theorem dX5_prepare_92 : decode cX5_prepare 92 = .ok (.lastore, 1) := by decide +kernel
theorem dX5_prepare_93 : decode cX5_prepare 93 = .ok (.iconst 0, 1) := by decide +kernel
theorem dX5_prepare_94 : decode cX5_prepare 94 = .ok (.istore_n 1, 1) := by decide +kernel
theorem dX5_prepare_95 : decode cX5_prepare 95 = .ok (.iload_n 1, 1) := by decide +kernel
theorem dX5_prepare_96 : decode cX5_prepare 96 = .ok (.aload_n 0, 1) := by decide +kernel
theorem dX5_prepare_97 : decode cX5_prepare 97 = .ok (.getfield 28, 3) := by decide +kernel
theorem dX5_prepare_100 : decode cX5_prepare 100 = .ok (.getfield 32, 3) := by decide +kernel
theorem dX5_prepare_103 : decode cX5_prepare 103 = .ok (.if_icmp .ge 53, 3) := by decide +kernel
theorem dX5_prepare_106 : decode cX5_prepare 106 = .ok (.iconst 0, 1) := by decide +kernel
theorem dX5_prepare_107 : decode cX5_prepare 107 = .ok (.istore_n 2, 1) := by decide +kernel
theorem dX5_prepare_108 : decode cX5_prepare 108 = .ok (.iload_n 2, 1) := by decide +kernel
theorem dX5_prepare_109 : decode cX5_prepare 109 = .ok (.iconst 1, 1) := by decide +kernel
theorem dX5_prepare_110 : decode cX5_prepare 110 = .ok (.iload_n 1, 1) := by decide +kernel
theorem dX5_prepare_111 : decode cX5_prepare 111 = .ok (.ishl, 1) := by decide +kernel
theorem dX5_prepare_112 : decode cX5_prepare 112 = .ok (.if_icmp .ge 38, 3) := by decide +kernel
theorem dX5_prepare_115 : decode cX5_prepare 115 = .ok (.aload_n 0, 1) := by decide +kernel
theorem dX5_prepare_116 : decode cX5_prepare 116 = .ok (.getfield 18, 3) := by decide +kernel
theorem dX5_prepare_119 : decode cX5_prepare 119 = .ok (.iload_n 2, 1) := by decide +kernel
theorem dX5_prepare_120 : decode cX5_prepare 120 = .ok (.iconst 1, 1) := by decide +kernel
theorem dX5_prepare_121 : decode cX5_prepare 121 = .ok (.iload_n 1, 1) := by decide +kernel
theorem dX5_prepare_122 : decode cX5_prepare 122 = .ok (.ishl, 1) := by decide +kernel
theorem dX5_prepare_123 : decode cX5_prepare 123 = .ok (.ior, 1) := by decide +kernel
theorem dX5_prepare_124 : decode cX5_prepare 124 = .ok (.aload_n 0, 1) := by decide +kernel
theorem dX5_prepare_125 : decode cX5_prepare 125 = .ok (.aload_n 0, 1) := by decide +kernel
theorem dX5_prepare_126 : decode cX5_prepare 126 = .ok (.getfield 18, 3) := by decide +kernel
theorem dX5_prepare_129 : decode cX5_prepare 129 = .ok (.iload_n 2, 1) := by decide +kernel
theorem dX5_prepare_130 : decode cX5_prepare 130 = .ok (.laload, 1) := by decide +kernel
theorem dX5_prepare_131 : decode cX5_prepare 131 = .ok (.iload_n 1, 1) := by decide +kernel
theorem dX5_prepare_132 : decode cX5_prepare 132 = .ok (.aload_n 0, 1) := by decide +kernel
theorem dX5_prepare_133 : decode cX5_prepare 133 = .ok (.getfield 28, 3) := by decide +kernel
theorem dX5_prepare_136 : decode cX5_prepare 136 = .ok (.iload_n 1, 1) := by decide +kernel
theorem dX5_prepare_137 : decode cX5_prepare 137 = .ok (.invokevirtual 51, 3) := by decide +kernel
theorem dX5_prepare_140 : decode cX5_prepare 140 = .ok (.invokevirtual 55, 3) := by decide +kernel
theorem dX5_prepare_143 : decode cX5_prepare 143 = .ok (.lastore, 1) := by decide +kernel
theorem dX5_prepare_144 : decode cX5_prepare 144 = .ok (.iinc 2 1, 3) := by decide +kernel
theorem dX5_prepare_147 : decode cX5_prepare 147 = .ok (.goto (-39), 3) := by decide +kernel
theorem dX5_prepare_150 : decode cX5_prepare 150 = .ok (.iinc 1 1, 3) := by decide +kernel
theorem dX5_prepare_153 : decode cX5_prepare 153 = .ok (.goto (-58), 3) := by decide +kernel
theorem dX5_prepare_156 : decode cX5_prepare 156 = .ok (.aload_n 0, 1) := by decide +kernel
theorem dX5_prepare_157 : decode cX5_prepare 157 = .ok (.invokevirtual 59, 3) := by decide +kernel
theorem dX5_prepare_160 : decode cX5_prepare 160 = .ok (.aload_n 0, 1) := by decide +kernel
theorem dX5_prepare_161 : decode cX5_prepare 161 = .ok (.aload_n 0, 1) := by decide +kernel
theorem dX5_prepare_162 : decode cX5_prepare 162 = .ok (.aload_n 0, 1) := by decide +kernel
theorem dX5_prepare_163 : decode cX5_prepare 163 = .ok (.getfield 28, 3) := by decide +kernel
theorem dX5_prepare_166 : decode cX5_prepare 166 = .ok (.invokevirtual 38, 3) := by decide +kernel
theorem dX5_prepare_169 : decode cX5_prepare 169 = .ok (.aload_n 0, 1) := by decide +kernel
theorem dX5_prepare_170 : decode cX5_prepare 170 = .ok (.getfield 28, 3) := by decide +kernel
theorem dX5_prepare_173 : decode cX5_prepare 173 = .ok (.invokevirtual 62, 3) := by decide +kernel
theorem dX5_prepare_176 : decode cX5_prepare 176 = .ok (.invokevirtual 65, 3) := by decide +kernel
theorem dX5_prepare_179 : decode cX5_prepare 179 = .ok (.putfield 68, 3) := by decide +kernel
theorem dX5_prepare_182 : decode cX5_prepare 182 = .ok (.return_, 1) := by decide +kernel
theorem dX0_forget_0 : decode cX0_forget 0 = .ok (.aload_n 0, 1) := by decide +kernel
theorem dX0_forget_1 : decode cX0_forget 1 = .ok (.iconst 0, 1) := by decide +kernel
theorem dX0_forget_2 : decode cX0_forget 2 = .ok (.putfield 33, 3) := by decide +kernel
theorem dX0_forget_5 : decode cX0_forget 5 = .ok (.return_, 1) := by decide +kernel
theorem dX8_start_0 : decode cX8_start 0 = .ok (.aload_n 0, 1) := by decide +kernel
theorem dX8_start_1 : decode cX8_start 1 = .ok (.aload_n 1, 1) := by decide +kernel
theorem dX8_start_2 : decode cX8_start 2 = .ok (.getfield 18, 3) := by decide +kernel
theorem dX8_start_5 : decode cX8_start 5 = .ok (.putfield 24, 3) := by decide +kernel
theorem dX8_start_8 : decode cX8_start 8 = .ok (.aload_n 1, 1) := by decide +kernel
theorem dX8_start_9 : decode cX8_start 9 = .ok (.getfield 27, 3) := by decide +kernel
theorem dX8_start_12 : decode cX8_start 12 = .ok (.iconst 0, 1) := by decide +kernel
theorem dX8_start_13 : decode cX8_start 13 = .ok (.aload_n 0, 1) := by decide +kernel
theorem dX8_start_14 : decode cX8_start 14 = .ok (.getfield 9, 3) := by decide +kernel
theorem dX8_start_17 : decode cX8_start 17 = .ok (.iconst 0, 1) := by decide +kernel
theorem dX8_start_18 : decode cX8_start 18 = .ok (.bipush 40, 2) := by decide +kernel
theorem dX8_start_20 : decode cX8_start 20 = .ok (.invokestatic 30, 3) := by decide +kernel
theorem dX8_start_23 : decode cX8_start 23 = .ok (.aload_n 0, 1) := by decide +kernel
theorem dX8_start_24 : decode cX8_start 24 = .ok (.iconst 0, 1) := by decide +kernel
theorem dX8_start_25 : decode cX8_start 25 = .ok (.putfield 36, 3) := by decide +kernel
theorem dX8_start_28 : decode cX8_start 28 = .ok (.return_, 1) := by decide +kernel
theorem dX3_met_0 : decode cX3_met 0 = .ok (.lload_n 0, 1) := by decide +kernel
theorem dX3_met_1 : decode cX3_met 1 = .ok (.lstore_n 3, 1) := by decide +kernel
theorem dX3_met_2 : decode cX3_met 2 = .ok (.iconst 0, 1) := by decide +kernel
theorem dX3_met_3 : decode cX3_met 3 = .ok (.istore 5, 2) := by decide +kernel
theorem dX3_met_5 : decode cX3_met 5 = .ok (.iload 5, 2) := by decide +kernel
theorem dX3_met_7 : decode cX3_met 7 = .ok (.bipush 6, 2) := by decide +kernel
theorem dX3_met_9 : decode cX3_met 9 = .ok (.if_icmp .ge 36, 3) := by decide +kernel
theorem dX3_met_12 : decode cX3_met 12 = .ok (.iload_n 2, 1) := by decide +kernel
theorem dX3_met_13 : decode cX3_met 13 = .ok (.iload 5, 2) := by decide +kernel
theorem dX3_met_15 : decode cX3_met 15 = .ok (.ishr, 1) := by decide +kernel
theorem dX3_met_16 : decode cX3_met 16 = .ok (.iconst 1, 1) := by decide +kernel
theorem dX3_met_17 : decode cX3_met 17 = .ok (.iand, 1) := by decide +kernel
theorem dX3_met_18 : decode cX3_met 18 = .ok (.ifCond .ne 21, 3) := by decide +kernel
theorem dX3_met_21 : decode cX3_met 21 = .ok (.lload_n 3, 1) := by decide +kernel
theorem dX3_met_22 : decode cX3_met 22 = .ok (.getstatic 9, 3) := by decide +kernel
theorem dX3_met_25 : decode cX3_met 25 = .ok (.iload 5, 2) := by decide +kernel
theorem dX3_met_27 : decode cX3_met 27 = .ok (.laload, 1) := by decide +kernel
theorem dX3_met_28 : decode cX3_met 28 = .ok (.land, 1) := by decide +kernel
theorem dX3_met_29 : decode cX3_met 29 = .ok (.lstore_n 3, 1) := by decide +kernel
theorem dX3_met_30 : decode cX3_met 30 = .ok (.lload_n 3, 1) := by decide +kernel
theorem dX3_met_31 : decode cX3_met 31 = .ok (.lload_n 3, 1) := by decide +kernel
theorem dX3_met_32 : decode cX3_met 32 = .ok (.iconst 1, 1) := by decide +kernel
theorem dX3_met_33 : decode cX3_met 33 = .ok (.iload 5, 2) := by decide +kernel
theorem dX3_met_35 : decode cX3_met 35 = .ok (.ishl, 1) := by decide +kernel
theorem dX3_met_36 : decode cX3_met 36 = .ok (.lushr, 1) := by decide +kernel
theorem dX3_met_37 : decode cX3_met 37 = .ok (.lor, 1) := by decide +kernel
theorem dX3_met_38 : decode cX3_met 38 = .ok (.lstore_n 3, 1) := by decide +kernel
theorem dX3_met_39 : decode cX3_met 39 = .ok (.iinc 5 1, 3) := by decide +kernel
theorem dX3_met_42 : decode cX3_met 42 = .ok (.goto (-37), 3) := by decide +kernel
theorem dX3_met_45 : decode cX3_met 45 = .ok (.lload_n 3, 1) := by decide +kernel
theorem dX3_met_46 : decode cX3_met 46 = .ok (.lreturn, 1) := by decide +kernel
theorem dX0_meetValues_0 : decode cX0_meetValues 0 = .ok (.iconst 0, 1) := by decide +kernel
theorem dX0_meetValues_1 : decode cX0_meetValues 1 = .ok (.istore_n 2, 1) := by decide +kernel
theorem dX0_meetValues_2 : decode cX0_meetValues 2 = .ok (.iconst 0, 1) := by decide +kernel
theorem dX0_meetValues_3 : decode cX0_meetValues 3 = .ok (.istore_n 3, 1) := by decide +kernel
theorem dX0_meetValues_4 : decode cX0_meetValues 4 = .ok (.iload_n 3, 1) := by decide +kernel
theorem dX0_meetValues_5 : decode cX0_meetValues 5 = .ok (.aload_n 0, 1) := by decide +kernel
theorem dX0_meetValues_6 : decode cX0_meetValues 6 = .ok (.getfield 25, 3) := by decide +kernel
theorem dX0_meetValues_9 : decode cX0_meetValues 9 = .ok (.getfield 77, 3) := by decide +kernel
theorem dX0_meetValues_12 : decode cX0_meetValues 12 = .ok (.iload_n 1, 1) := by decide +kernel
theorem dX0_meetValues_13 : decode cX0_meetValues 13 = .ok (.iaload, 1) := by decide +kernel
theorem dX0_meetValues_14 : decode cX0_meetValues 14 = .ok (.if_icmp .ge 56, 3) := by decide +kernel
theorem dX0_meetValues_17 : decode cX0_meetValues 17 = .ok (.aload_n 0, 1) := by decide +kernel
theorem dX0_meetValues_18 : decode cX0_meetValues 18 = .ok (.getfield 18, 3) := by decide +kernel
theorem dX0_meetValues_21 : decode cX0_meetValues 21 = .ok (.iload_n 1, 1) := by decide +kernel
theorem dX0_meetValues_22 : decode cX0_meetValues 22 = .ok (.laload, 1) := by decide +kernel
theorem dX0_meetValues_23 : decode cX0_meetValues 23 = .ok (.aload_n 0, 1) := by decide +kernel
theorem dX0_meetValues_24 : decode cX0_meetValues 24 = .ok (.getfield 29, 3) := by decide +kernel
theorem dX0_meetValues_27 : decode cX0_meetValues 27 = .ok (.iload_n 1, 1) := by decide +kernel
theorem dX0_meetValues_28 : decode cX0_meetValues 28 = .ok (.iload_n 3, 1) := by decide +kernel
theorem dX0_meetValues_29 : decode cX0_meetValues 29 = .ok (.invokevirtual 80, 3) := by decide +kernel
theorem dX0_meetValues_32 : decode cX0_meetValues 32 = .ok (.invokestatic 86, 3) := by decide +kernel
theorem dX0_meetValues_35 : decode cX0_meetValues 35 = .ok (.lstore 4, 2) := by decide +kernel
theorem dX0_meetValues_37 : decode cX0_meetValues 37 = .ok (.aload_n 0, 1) := by decide +kernel
theorem dX0_meetValues_38 : decode cX0_meetValues 38 = .ok (.getfield 22, 3) := by decide +kernel
theorem dX0_meetValues_41 : decode cX0_meetValues 41 = .ok (.iload_n 1, 1) := by decide +kernel
theorem dX0_meetValues_42 : decode cX0_meetValues 42 = .ok (.iconst 5, 1) := by decide +kernel
theorem dX0_meetValues_43 : decode cX0_meetValues 43 = .ok (.imul, 1) := by decide +kernel
theorem dX0_meetValues_44 : decode cX0_meetValues 44 = .ok (.iload_n 3, 1) := by decide +kernel
theorem dX0_meetValues_45 : decode cX0_meetValues 45 = .ok (.iadd, 1) := by decide +kernel
theorem dX0_meetValues_46 : decode cX0_meetValues 46 = .ok (.lload 4, 2) := by decide +kernel
theorem dX0_meetValues_48 : decode cX0_meetValues 48 = .ok (.lastore, 1) := by decide +kernel
theorem dX0_meetValues_49 : decode cX0_meetValues 49 = .ok (.lload 4, 2) := by decide +kernel
theorem dX0_meetValues_51 : decode cX0_meetValues 51 = .ok (.ldc2_w 90, 3) := by decide +kernel
theorem dX0_meetValues_54 : decode cX0_meetValues 54 = .ok (.lcmp, 1) := by decide +kernel
theorem dX0_meetValues_55 : decode cX0_meetValues 55 = .ok (.ifCond .eq 9, 3) := by decide +kernel
theorem dX0_meetValues_58 : decode cX0_meetValues 58 = .ok (.iload_n 2, 1) := by decide +kernel
theorem dX0_meetValues_59 : decode cX0_meetValues 59 = .ok (.iconst 1, 1) := by decide +kernel
theorem dX0_meetValues_60 : decode cX0_meetValues 60 = .ok (.iload_n 3, 1) := by decide +kernel
theorem dX0_meetValues_61 : decode cX0_meetValues 61 = .ok (.ishl, 1) := by decide +kernel
theorem dX0_meetValues_62 : decode cX0_meetValues 62 = .ok (.ior, 1) := by decide +kernel
theorem dX0_meetValues_63 : decode cX0_meetValues 63 = .ok (.istore_n 2, 1) := by decide +kernel
theorem dX0_meetValues_64 : decode cX0_meetValues 64 = .ok (.iinc 3 1, 3) := by decide +kernel
theorem dX0_meetValues_67 : decode cX0_meetValues 67 = .ok (.goto (-63), 3) := by decide +kernel
theorem dX0_meetValues_70 : decode cX0_meetValues 70 = .ok (.iload_n 2, 1) := by decide +kernel
theorem dX0_meetValues_71 : decode cX0_meetValues 71 = .ok (.ireturn, 1) := by decide +kernel
theorem dX0_isGreatest_0 : decode cX0_isGreatest 0 = .ok (.lconst 1, 1) := by decide +kernel
theorem dX0_isGreatest_1 : decode cX0_isGreatest 1 = .ok (.lstore_n 1, 1) := by decide +kernel
theorem dX0_isGreatest_2 : decode cX0_isGreatest 2 = .ok (.aload_n 0, 1) := by decide +kernel
theorem dX0_isGreatest_3 : decode cX0_isGreatest 3 = .ok (.getfield 25, 3) := by decide +kernel
theorem dX0_isGreatest_6 : decode cX0_isGreatest 6 = .ok (.getfield 49, 3) := by decide +kernel
theorem dX0_isGreatest_9 : decode cX0_isGreatest 9 = .ok (.iconst 1, 1) := by decide +kernel
theorem dX0_isGreatest_10 : decode cX0_isGreatest 10 = .ok (.isub, 1) := by decide +kernel
theorem dX0_isGreatest_11 : decode cX0_isGreatest 11 = .ok (.istore_n 3, 1) := by decide +kernel
theorem dX0_isGreatest_12 : decode cX0_isGreatest 12 = .ok (.iload_n 3, 1) := by decide +kernel
theorem dX0_isGreatest_13 : decode cX0_isGreatest 13 = .ok (.ifCond .lt 82, 3) := by decide +kernel
theorem dX0_isGreatest_16 : decode cX0_isGreatest 16 = .ok (.iconst 0, 1) := by decide +kernel
theorem dX0_isGreatest_17 : decode cX0_isGreatest 17 = .ok (.istore 4, 2) := by decide +kernel
theorem dX0_isGreatest_19 : decode cX0_isGreatest 19 = .ok (.iload 4, 2) := by decide +kernel
theorem dX0_isGreatest_21 : decode cX0_isGreatest 21 = .ok (.aload_n 0, 1) := by decide +kernel
theorem dX0_isGreatest_22 : decode cX0_isGreatest 22 = .ok (.getfield 25, 3) := by decide +kernel
theorem dX0_isGreatest_25 : decode cX0_isGreatest 25 = .ok (.getfield 77, 3) := by decide +kernel
theorem dX0_isGreatest_28 : decode cX0_isGreatest 28 = .ok (.iload_n 3, 1) := by decide +kernel
theorem dX0_isGreatest_29 : decode cX0_isGreatest 29 = .ok (.iaload, 1) := by decide +kernel
theorem dX0_isGreatest_30 : decode cX0_isGreatest 30 = .ok (.if_icmp .ge 43, 3) := by decide +kernel
theorem dX0_isGreatest_33 : decode cX0_isGreatest 33 = .ok (.aload_n 0, 1) := by decide +kernel
theorem dX0_isGreatest_34 : decode cX0_isGreatest 34 = .ok (.getfield 15, 3) := by decide +kernel
theorem dX0_isGreatest_37 : decode cX0_isGreatest 37 = .ok (.iload_n 3, 1) := by decide +kernel
theorem dX0_isGreatest_38 : decode cX0_isGreatest 38 = .ok (.iaload, 1) := by decide +kernel
theorem dX0_isGreatest_39 : decode cX0_isGreatest 39 = .ok (.iload 4, 2) := by decide +kernel
theorem dX0_isGreatest_41 : decode cX0_isGreatest 41 = .ok (.ishr, 1) := by decide +kernel
theorem dX0_isGreatest_42 : decode cX0_isGreatest 42 = .ok (.iconst 1, 1) := by decide +kernel
theorem dX0_isGreatest_43 : decode cX0_isGreatest 43 = .ok (.iand, 1) := by decide +kernel
theorem dX0_isGreatest_44 : decode cX0_isGreatest 44 = .ok (.ifCond .ne 23, 3) := by decide +kernel
theorem dX0_isGreatest_47 : decode cX0_isGreatest 47 = .ok (.aload_n 0, 1) := by decide +kernel
theorem dX0_isGreatest_48 : decode cX0_isGreatest 48 = .ok (.getfield 22, 3) := by decide +kernel
theorem dX0_isGreatest_51 : decode cX0_isGreatest 51 = .ok (.iload_n 3, 1) := by decide +kernel
theorem dX0_isGreatest_52 : decode cX0_isGreatest 52 = .ok (.iconst 5, 1) := by decide +kernel
theorem dX0_isGreatest_53 : decode cX0_isGreatest 53 = .ok (.imul, 1) := by decide +kernel
theorem dX0_isGreatest_54 : decode cX0_isGreatest 54 = .ok (.iload 4, 2) := by decide +kernel
theorem dX0_isGreatest_56 : decode cX0_isGreatest 56 = .ok (.iadd, 1) := by decide +kernel
theorem dX0_isGreatest_57 : decode cX0_isGreatest 57 = .ok (.laload, 1) := by decide +kernel
theorem dX0_isGreatest_58 : decode cX0_isGreatest 58 = .ok (.lload_n 1, 1) := by decide +kernel
theorem dX0_isGreatest_59 : decode cX0_isGreatest 59 = .ok (.land, 1) := by decide +kernel
theorem dX0_isGreatest_60 : decode cX0_isGreatest 60 = .ok (.lconst 0, 1) := by decide +kernel
theorem dX0_isGreatest_61 : decode cX0_isGreatest 61 = .ok (.lcmp, 1) := by decide +kernel
theorem dX0_isGreatest_62 : decode cX0_isGreatest 62 = .ok (.ifCond .ne 5, 3) := by decide +kernel
theorem dX0_isGreatest_65 : decode cX0_isGreatest 65 = .ok (.iconst 0, 1) := by decide +kernel
theorem dX0_isGreatest_66 : decode cX0_isGreatest 66 = .ok (.ireturn, 1) := by decide +kernel
theorem dX0_isGreatest_67 : decode cX0_isGreatest 67 = .ok (.iinc 4 1, 3) := by decide +kernel
theorem dX0_isGreatest_70 : decode cX0_isGreatest 70 = .ok (.goto (-51), 3) := by decide +kernel
theorem dX0_isGreatest_73 : decode cX0_isGreatest 73 = .ok (.aload_n 0, 1) := by decide +kernel
theorem dX0_isGreatest_74 : decode cX0_isGreatest 74 = .ok (.getfield 29, 3) := by decide +kernel
theorem dX0_isGreatest_77 : decode cX0_isGreatest 77 = .ok (.lload_n 1, 1) := by decide +kernel
theorem dX0_isGreatest_78 : decode cX0_isGreatest 78 = .ok (.iload_n 3, 1) := by decide +kernel
theorem dX0_isGreatest_79 : decode cX0_isGreatest 79 = .ok (.aload_n 0, 1) := by decide +kernel
theorem dX0_isGreatest_80 : decode cX0_isGreatest 80 = .ok (.getfield 15, 3) := by decide +kernel
theorem dX0_isGreatest_83 : decode cX0_isGreatest 83 = .ok (.iload_n 3, 1) := by decide +kernel
theorem dX0_isGreatest_84 : decode cX0_isGreatest 84 = .ok (.iaload, 1) := by decide +kernel
theorem dX0_isGreatest_85 : decode cX0_isGreatest 85 = .ok (.invokevirtual 92, 3) := by decide +kernel
theorem dX0_isGreatest_88 : decode cX0_isGreatest 88 = .ok (.lstore_n 1, 1) := by decide +kernel
theorem dX0_isGreatest_89 : decode cX0_isGreatest 89 = .ok (.iinc 3 (-1), 3) := by decide +kernel
theorem dX0_isGreatest_92 : decode cX0_isGreatest 92 = .ok (.goto (-80), 3) := by decide +kernel
theorem dX0_isGreatest_95 : decode cX0_isGreatest 95 = .ok (.iconst 1, 1) := by decide +kernel
theorem dX0_isGreatest_96 : decode cX0_isGreatest 96 = .ok (.ireturn, 1) := by decide +kernel
theorem dX0_joined_0 : decode cX0_joined 0 = .ok (.lconst 0, 1) := by decide +kernel
theorem dX0_joined_1 : decode cX0_joined 1 = .ok (.lstore_n 3, 1) := by decide +kernel
theorem dX0_joined_2 : decode cX0_joined 2 = .ok (.iconst 0, 1) := by decide +kernel
theorem dX0_joined_3 : decode cX0_joined 3 = .ok (.istore 5, 2) := by decide +kernel
theorem dX0_joined_5 : decode cX0_joined 5 = .ok (.iload 5, 2) := by decide +kernel
theorem dX0_joined_7 : decode cX0_joined 7 = .ok (.aload_n 0, 1) := by decide +kernel
theorem dX0_joined_8 : decode cX0_joined 8 = .ok (.getfield 25, 3) := by decide +kernel
theorem dX0_joined_11 : decode cX0_joined 11 = .ok (.getfield 77, 3) := by decide +kernel
theorem dX0_joined_14 : decode cX0_joined 14 = .ok (.iload_n 1, 1) := by decide +kernel
theorem dX0_joined_15 : decode cX0_joined 15 = .ok (.iaload, 1) := by decide +kernel
theorem dX0_joined_16 : decode cX0_joined 16 = .ok (.if_icmp .ge 32, 3) := by decide +kernel
theorem dX0_joined_19 : decode cX0_joined 19 = .ok (.iload_n 2, 1) := by decide +kernel
theorem dX0_joined_20 : decode cX0_joined 20 = .ok (.iload 5, 2) := by decide +kernel
theorem dX0_joined_22 : decode cX0_joined 22 = .ok (.ishr, 1) := by decide +kernel
theorem dX0_joined_23 : decode cX0_joined 23 = .ok (.iconst 1, 1) := by decide +kernel
theorem dX0_joined_24 : decode cX0_joined 24 = .ok (.iand, 1) := by decide +kernel
theorem dX0_joined_25 : decode cX0_joined 25 = .ok (.ifCond .eq 17, 3) := by decide +kernel
theorem dX0_joined_28 : decode cX0_joined 28 = .ok (.lload_n 3, 1) := by decide +kernel
theorem dX0_joined_29 : decode cX0_joined 29 = .ok (.aload_n 0, 1) := by decide +kernel
theorem dX0_joined_30 : decode cX0_joined 30 = .ok (.getfield 22, 3) := by decide +kernel
theorem dX0_joined_33 : decode cX0_joined 33 = .ok (.iload_n 1, 1) := by decide +kernel
theorem dX0_joined_34 : decode cX0_joined 34 = .ok (.iconst 5, 1) := by decide +kernel
theorem dX0_joined_35 : decode cX0_joined 35 = .ok (.imul, 1) := by decide +kernel
theorem dX0_joined_36 : decode cX0_joined 36 = .ok (.iload 5, 2) := by decide +kernel
theorem dX0_joined_38 : decode cX0_joined 38 = .ok (.iadd, 1) := by decide +kernel
theorem dX0_joined_39 : decode cX0_joined 39 = .ok (.laload, 1) := by decide +kernel
theorem dX0_joined_40 : decode cX0_joined 40 = .ok (.lor, 1) := by decide +kernel
theorem dX0_joined_41 : decode cX0_joined 41 = .ok (.lstore_n 3, 1) := by decide +kernel
theorem dX0_joined_42 : decode cX0_joined 42 = .ok (.iinc 5 1, 3) := by decide +kernel
theorem dX0_joined_45 : decode cX0_joined 45 = .ok (.goto (-40), 3) := by decide +kernel
theorem dX0_joined_48 : decode cX0_joined 48 = .ok (.lload_n 3, 1) := by decide +kernel
theorem dX0_joined_49 : decode cX0_joined 49 = .ok (.lreturn, 1) := by decide +kernel
theorem dX0_isClosed_0 : decode cX0_isClosed 0 = .ok (.aload_n 0, 1) := by decide +kernel
theorem dX0_isClosed_1 : decode cX0_isClosed 1 = .ok (.iload_n 1, 1) := by decide +kernel
theorem dX0_isClosed_2 : decode cX0_isClosed 2 = .ok (.iload_n 2, 1) := by decide +kernel
theorem dX0_isClosed_3 : decode cX0_isClosed 3 = .ok (.invokevirtual 73, 3) := by decide +kernel
theorem dX0_isClosed_6 : decode cX0_isClosed 6 = .ok (.lstore_n 3, 1) := by decide +kernel
theorem dX0_isClosed_7 : decode cX0_isClosed 7 = .ok (.iconst 0, 1) := by decide +kernel
theorem dX0_isClosed_8 : decode cX0_isClosed 8 = .ok (.istore 5, 2) := by decide +kernel
theorem dX0_isClosed_10 : decode cX0_isClosed 10 = .ok (.iload 5, 2) := by decide +kernel
theorem dX0_isClosed_12 : decode cX0_isClosed 12 = .ok (.aload_n 0, 1) := by decide +kernel
theorem dX0_isClosed_13 : decode cX0_isClosed 13 = .ok (.getfield 25, 3) := by decide +kernel
theorem dX0_isClosed_16 : decode cX0_isClosed 16 = .ok (.getfield 77, 3) := by decide +kernel
theorem dX0_isClosed_19 : decode cX0_isClosed 19 = .ok (.iload_n 1, 1) := by decide +kernel
theorem dX0_isClosed_20 : decode cX0_isClosed 20 = .ok (.iaload, 1) := by decide +kernel
theorem dX0_isClosed_21 : decode cX0_isClosed 21 = .ok (.if_icmp .ge 42, 3) := by decide +kernel
theorem dX0_isClosed_24 : decode cX0_isClosed 24 = .ok (.iload_n 2, 1) := by decide +kernel
theorem dX0_isClosed_25 : decode cX0_isClosed 25 = .ok (.iload 5, 2) := by decide +kernel
theorem dX0_isClosed_27 : decode cX0_isClosed 27 = .ok (.ishr, 1) := by decide +kernel
theorem dX0_isClosed_28 : decode cX0_isClosed 28 = .ok (.iconst 1, 1) := by decide +kernel
theorem dX0_isClosed_29 : decode cX0_isClosed 29 = .ok (.iand, 1) := by decide +kernel
theorem dX0_isClosed_30 : decode cX0_isClosed 30 = .ok (.ifCond .ne 27, 3) := by decide +kernel
theorem dX0_isClosed_33 : decode cX0_isClosed 33 = .ok (.aload_n 0, 1) := by decide +kernel
theorem dX0_isClosed_34 : decode cX0_isClosed 34 = .ok (.getfield 22, 3) := by decide +kernel
theorem dX0_isClosed_37 : decode cX0_isClosed 37 = .ok (.iload_n 1, 1) := by decide +kernel
theorem dX0_isClosed_38 : decode cX0_isClosed 38 = .ok (.iconst 5, 1) := by decide +kernel
theorem dX0_isClosed_39 : decode cX0_isClosed 39 = .ok (.imul, 1) := by decide +kernel
theorem dX0_isClosed_40 : decode cX0_isClosed 40 = .ok (.iload 5, 2) := by decide +kernel
theorem dX0_isClosed_42 : decode cX0_isClosed 42 = .ok (.iadd, 1) := by decide +kernel
theorem dX0_isClosed_43 : decode cX0_isClosed 43 = .ok (.laload, 1) := by decide +kernel
theorem dX0_isClosed_44 : decode cX0_isClosed 44 = .ok (.lload_n 3, 1) := by decide +kernel
theorem dX0_isClosed_45 : decode cX0_isClosed 45 = .ok (.ldc2_w 90, 3) := by decide +kernel
theorem dX0_isClosed_48 : decode cX0_isClosed 48 = .ok (.lxor, 1) := by decide +kernel
theorem dX0_isClosed_49 : decode cX0_isClosed 49 = .ok (.land, 1) := by decide +kernel
theorem dX0_isClosed_50 : decode cX0_isClosed 50 = .ok (.lconst 0, 1) := by decide +kernel
theorem dX0_isClosed_51 : decode cX0_isClosed 51 = .ok (.lcmp, 1) := by decide +kernel
theorem dX0_isClosed_52 : decode cX0_isClosed 52 = .ok (.ifCond .ne 5, 3) := by decide +kernel
theorem dX0_isClosed_55 : decode cX0_isClosed 55 = .ok (.iconst 0, 1) := by decide +kernel
theorem dX0_isClosed_56 : decode cX0_isClosed 56 = .ok (.ireturn, 1) := by decide +kernel
theorem dX0_isClosed_57 : decode cX0_isClosed 57 = .ok (.iinc 5 1, 3) := by decide +kernel
theorem dX0_isClosed_60 : decode cX0_isClosed 60 = .ok (.goto (-50), 3) := by decide +kernel
theorem dX0_isClosed_63 : decode cX0_isClosed 63 = .ok (.iconst 1, 1) := by decide +kernel
theorem dX0_isClosed_64 : decode cX0_isClosed 64 = .ok (.ireturn, 1) := by decide +kernel
theorem dX0_setOf_0 : decode cX0_setOf 0 = .ok (.aload_n 0, 1) := by decide +kernel
theorem dX0_setOf_1 : decode cX0_setOf 1 = .ok (.getfield 9, 3) := by decide +kernel
theorem dX0_setOf_4 : decode cX0_setOf 4 = .ok (.iload_n 1, 1) := by decide +kernel
theorem dX0_setOf_5 : decode cX0_setOf 5 = .ok (.iaload, 1) := by decide +kernel
theorem dX0_setOf_6 : decode cX0_setOf 6 = .ok (.iconst 5, 1) := by decide +kernel
theorem dX0_setOf_7 : decode cX0_setOf 7 = .ok (.iload_n 2, 1) := by decide +kernel
theorem dX0_setOf_8 : decode cX0_setOf 8 = .ok (.imul, 1) := by decide +kernel
theorem dX0_setOf_9 : decode cX0_setOf 9 = .ok (.ishr, 1) := by decide +kernel
theorem dX0_setOf_10 : decode cX0_setOf 10 = .ok (.bipush 31, 2) := by decide +kernel
theorem dX0_setOf_12 : decode cX0_setOf 12 = .ok (.iand, 1) := by decide +kernel
theorem dX0_setOf_13 : decode cX0_setOf 13 = .ok (.ireturn, 1) := by decide +kernel
theorem dX0_entering_0 : decode cX0_entering 0 = .ok (.iconst 0, 1) := by decide +kernel
theorem dX0_entering_1 : decode cX0_entering 1 = .ok (.istore_n 2, 1) := by decide +kernel
theorem dX0_entering_2 : decode cX0_entering 2 = .ok (.iconst 0, 1) := by decide +kernel
theorem dX0_entering_3 : decode cX0_entering 3 = .ok (.istore_n 3, 1) := by decide +kernel
theorem dX0_entering_4 : decode cX0_entering 4 = .ok (.iload_n 3, 1) := by decide +kernel
theorem dX0_entering_5 : decode cX0_entering 5 = .ok (.aload_n 0, 1) := by decide +kernel
theorem dX0_entering_6 : decode cX0_entering 6 = .ok (.getfield 25, 3) := by decide +kernel
theorem dX0_entering_9 : decode cX0_entering 9 = .ok (.getfield 49, 3) := by decide +kernel
theorem dX0_entering_12 : decode cX0_entering 12 = .ok (.if_icmp .ge 32, 3) := by decide +kernel
theorem dX0_entering_15 : decode cX0_entering 15 = .ok (.aload_n 0, 1) := by decide +kernel
theorem dX0_entering_16 : decode cX0_entering 16 = .ok (.iload_n 1, 1) := by decide +kernel
theorem dX0_entering_17 : decode cX0_entering 17 = .ok (.iload_n 3, 1) := by decide +kernel
theorem dX0_entering_18 : decode cX0_entering 18 = .ok (.invokevirtual 102, 3) := by decide +kernel
theorem dX0_entering_21 : decode cX0_entering 21 = .ok (.aload_n 0, 1) := by decide +kernel
theorem dX0_entering_22 : decode cX0_entering 22 = .ok (.getfield 25, 3) := by decide +kernel
theorem dX0_entering_25 : decode cX0_entering 25 = .ok (.iload_n 3, 1) := by decide +kernel
theorem dX0_entering_26 : decode cX0_entering 26 = .ok (.invokevirtual 105, 3) := by decide +kernel
theorem dX0_entering_29 : decode cX0_entering 29 = .ok (.if_icmp .eq 9, 3) := by decide +kernel
theorem dX0_entering_32 : decode cX0_entering 32 = .ok (.iload_n 2, 1) := by decide +kernel
theorem dX0_entering_33 : decode cX0_entering 33 = .ok (.iconst 1, 1) := by decide +kernel
theorem dX0_entering_34 : decode cX0_entering 34 = .ok (.iload_n 3, 1) := by decide +kernel
theorem dX0_entering_35 : decode cX0_entering 35 = .ok (.ishl, 1) := by decide +kernel
theorem dX0_entering_36 : decode cX0_entering 36 = .ok (.ior, 1) := by decide +kernel
theorem dX0_entering_37 : decode cX0_entering 37 = .ok (.istore_n 2, 1) := by decide +kernel
theorem dX0_entering_38 : decode cX0_entering 38 = .ok (.iinc 3 1, 3) := by decide +kernel
theorem dX0_entering_41 : decode cX0_entering 41 = .ok (.goto (-37), 3) := by decide +kernel
theorem dX0_entering_44 : decode cX0_entering 44 = .ok (.iload_n 2, 1) := by decide +kernel
theorem dX0_entering_45 : decode cX0_entering 45 = .ok (.ireturn, 1) := by decide +kernel
theorem dX1_ofDigits_0 : decode cX1_ofDigits 0 = .ok (.iload_n 0, 1) := by decide +kernel
theorem dX1_ofDigits_1 : decode cX1_ofDigits 1 = .ok (.istore_n 2, 1) := by decide +kernel
theorem dX1_ofDigits_2 : decode cX1_ofDigits 2 = .ok (.iconst 0, 1) := by decide +kernel
theorem dX1_ofDigits_3 : decode cX1_ofDigits 3 = .ok (.istore_n 3, 1) := by decide +kernel
theorem dX1_ofDigits_4 : decode cX1_ofDigits 4 = .ok (.iload_n 1, 1) := by decide +kernel
theorem dX1_ofDigits_5 : decode cX1_ofDigits 5 = .ok (.iconst 1, 1) := by decide +kernel
theorem dX1_ofDigits_6 : decode cX1_ofDigits 6 = .ok (.isub, 1) := by decide +kernel
theorem dX1_ofDigits_7 : decode cX1_ofDigits 7 = .ok (.istore 4, 2) := by decide +kernel
theorem dX1_ofDigits_9 : decode cX1_ofDigits 9 = .ok (.iload 4, 2) := by decide +kernel
theorem dX1_ofDigits_11 : decode cX1_ofDigits 11 = .ok (.ifCond .lt 42, 3) := by decide +kernel
theorem dX1_ofDigits_14 : decode cX1_ofDigits 14 = .ok (.iload_n 2, 1) := by decide +kernel
theorem dX1_ofDigits_15 : decode cX1_ofDigits 15 = .ok (.bipush 10, 2) := by decide +kernel
theorem dX1_ofDigits_17 : decode cX1_ofDigits 17 = .ok (.irem, 1) := by decide +kernel
theorem dX1_ofDigits_18 : decode cX1_ofDigits 18 = .ok (.istore 5, 2) := by decide +kernel
theorem dX1_ofDigits_20 : decode cX1_ofDigits 20 = .ok (.iload 5, 2) := by decide +kernel
theorem dX1_ofDigits_22 : decode cX1_ofDigits 22 = .ok (.ifCond .lt 9, 3) := by decide +kernel
theorem dX1_ofDigits_25 : decode cX1_ofDigits 25 = .ok (.iload 5, 2) := by decide +kernel
theorem dX1_ofDigits_27 : decode cX1_ofDigits 27 = .ok (.iconst 5, 1) := by decide +kernel
theorem dX1_ofDigits_28 : decode cX1_ofDigits 28 = .ok (.if_icmp .lt 5, 3) := by decide +kernel
theorem dX1_ofDigits_31 : decode cX1_ofDigits 31 = .ok (.iconst (-1), 1) := by decide +kernel
theorem dX1_ofDigits_32 : decode cX1_ofDigits 32 = .ok (.ireturn, 1) := by decide +kernel
theorem dX1_ofDigits_33 : decode cX1_ofDigits 33 = .ok (.iload_n 3, 1) := by decide +kernel
theorem dX1_ofDigits_34 : decode cX1_ofDigits 34 = .ok (.iload 4, 2) := by decide +kernel
theorem dX1_ofDigits_36 : decode cX1_ofDigits 36 = .ok (.iload 5, 2) := by decide +kernel
theorem dX1_ofDigits_38 : decode cX1_ofDigits 38 = .ok (.invokestatic 18, 3) := by decide +kernel
theorem dX1_ofDigits_41 : decode cX1_ofDigits 41 = .ok (.istore_n 3, 1) := by decide +kernel
theorem dX1_ofDigits_42 : decode cX1_ofDigits 42 = .ok (.iload_n 2, 1) := by decide +kernel
theorem dX1_ofDigits_43 : decode cX1_ofDigits 43 = .ok (.bipush 10, 2) := by decide +kernel
theorem dX1_ofDigits_45 : decode cX1_ofDigits 45 = .ok (.idiv, 1) := by decide +kernel
theorem dX1_ofDigits_46 : decode cX1_ofDigits 46 = .ok (.istore_n 2, 1) := by decide +kernel
theorem dX1_ofDigits_47 : decode cX1_ofDigits 47 = .ok (.iinc 4 (-1), 3) := by decide +kernel
theorem dX1_ofDigits_50 : decode cX1_ofDigits 50 = .ok (.goto (-41), 3) := by decide +kernel
theorem dX1_ofDigits_53 : decode cX1_ofDigits 53 = .ok (.iload_n 2, 1) := by decide +kernel
theorem dX1_ofDigits_54 : decode cX1_ofDigits 54 = .ok (.ifCond .ne 7, 3) := by decide +kernel
theorem dX1_ofDigits_57 : decode cX1_ofDigits 57 = .ok (.iload_n 3, 1) := by decide +kernel
theorem dX1_ofDigits_58 : decode cX1_ofDigits 58 = .ok (.goto 4, 3) := by decide +kernel
theorem dX1_ofDigits_61 : decode cX1_ofDigits 61 = .ok (.iconst (-1), 1) := by decide +kernel
theorem dX1_ofDigits_62 : decode cX1_ofDigits 62 = .ok (.ireturn, 1) := by decide +kernel
theorem dX1_answerAt_0 : decode cX1_answerAt 0 = .ok (.iload_n 0, 1) := by decide +kernel
theorem dX1_answerAt_1 : decode cX1_answerAt 1 = .ok (.iconst 3, 1) := by decide +kernel
theorem dX1_answerAt_2 : decode cX1_answerAt 2 = .ok (.iload_n 1, 1) := by decide +kernel
theorem dX1_answerAt_3 : decode cX1_answerAt 3 = .ok (.imul, 1) := by decide +kernel
theorem dX1_answerAt_4 : decode cX1_answerAt 4 = .ok (.ishr, 1) := by decide +kernel
theorem dX1_answerAt_5 : decode cX1_answerAt 5 = .ok (.bipush 7, 2) := by decide +kernel
theorem dX1_answerAt_7 : decode cX1_answerAt 7 = .ok (.iand, 1) := by decide +kernel
theorem dX1_answerAt_8 : decode cX1_answerAt 8 = .ok (.iconst 1, 1) := by decide +kernel
theorem dX1_answerAt_9 : decode cX1_answerAt 9 = .ok (.isub, 1) := by decide +kernel
theorem dX1_answerAt_10 : decode cX1_answerAt 10 = .ok (.ireturn, 1) := by decide +kernel
theorem dX6_holdsForm_0 : decode cX6_holdsForm 0 = .ok (.iconst 0, 1) := by decide +kernel
theorem dX6_holdsForm_1 : decode cX6_holdsForm 1 = .ok (.istore_n 2, 1) := by decide +kernel
theorem dX6_holdsForm_2 : decode cX6_holdsForm 2 = .ok (.iload_n 2, 1) := by decide +kernel
theorem dX6_holdsForm_3 : decode cX6_holdsForm 3 = .ok (.aload_n 0, 1) := by decide +kernel
theorem dX6_holdsForm_4 : decode cX6_holdsForm 4 = .ok (.getfield 38, 3) := by decide +kernel
theorem dX6_holdsForm_7 : decode cX6_holdsForm 7 = .ok (.if_icmp .ge 31, 3) := by decide +kernel
theorem dX6_holdsForm_10 : decode cX6_holdsForm 10 = .ok (.iload_n 1, 1) := by decide +kernel
theorem dX6_holdsForm_11 : decode cX6_holdsForm 11 = .ok (.iload_n 2, 1) := by decide +kernel
theorem dX6_holdsForm_12 : decode cX6_holdsForm 12 = .ok (.invokestatic 53, 3) := by decide +kernel
theorem dX6_holdsForm_15 : decode cX6_holdsForm 15 = .ok (.istore_n 3, 1) := by decide +kernel
theorem dX6_holdsForm_16 : decode cX6_holdsForm 16 = .ok (.iload_n 3, 1) := by decide +kernel
theorem dX6_holdsForm_17 : decode cX6_holdsForm 17 = .ok (.ifCond .lt 13, 3) := by decide +kernel
theorem dX6_holdsForm_20 : decode cX6_holdsForm 20 = .ok (.iload_n 3, 1) := by decide +kernel
theorem dX6_holdsForm_21 : decode cX6_holdsForm 21 = .ok (.aload_n 0, 1) := by decide +kernel
theorem dX6_holdsForm_22 : decode cX6_holdsForm 22 = .ok (.getfield 9, 3) := by decide +kernel
theorem dX6_holdsForm_25 : decode cX6_holdsForm 25 = .ok (.iload_n 2, 1) := by decide +kernel
theorem dX6_holdsForm_26 : decode cX6_holdsForm 26 = .ok (.iaload, 1) := by decide +kernel
theorem dX6_holdsForm_27 : decode cX6_holdsForm 27 = .ok (.if_icmp .lt 5, 3) := by decide +kernel
theorem dX6_holdsForm_30 : decode cX6_holdsForm 30 = .ok (.iconst 0, 1) := by decide +kernel
theorem dX6_holdsForm_31 : decode cX6_holdsForm 31 = .ok (.ireturn, 1) := by decide +kernel
theorem dX6_holdsForm_32 : decode cX6_holdsForm 32 = .ok (.iinc 2 1, 3) := by decide +kernel
theorem dX6_holdsForm_35 : decode cX6_holdsForm 35 = .ok (.goto (-33), 3) := by decide +kernel
theorem dX6_holdsForm_38 : decode cX6_holdsForm 38 = .ok (.aload_n 0, 1) := by decide +kernel
theorem dX6_holdsForm_39 : decode cX6_holdsForm 39 = .ok (.getfield 38, 3) := by decide +kernel
theorem dX6_holdsForm_42 : decode cX6_holdsForm 42 = .ok (.ifCond .le 7, 3) := by decide +kernel
theorem dX6_holdsForm_45 : decode cX6_holdsForm 45 = .ok (.iconst 1, 1) := by decide +kernel
theorem dX6_holdsForm_46 : decode cX6_holdsForm 46 = .ok (.goto 4, 3) := by decide +kernel
theorem dX6_holdsForm_49 : decode cX6_holdsForm 49 = .ok (.iconst 0, 1) := by decide +kernel
theorem dX6_holdsForm_50 : decode cX6_holdsForm 50 = .ok (.ireturn, 1) := by decide +kernel
theorem dX5_editsLeft_0 : decode cX5_editsLeft 0 = .ok (.aload_n 0, 1) := by decide +kernel
theorem dX5_editsLeft_1 : decode cX5_editsLeft 1 = .ok (.getfield 28, 3) := by decide +kernel
theorem dX5_editsLeft_4 : decode cX5_editsLeft 4 = .ok (.invokevirtual 38, 3) := by decide +kernel
theorem dX5_editsLeft_7 : decode cX5_editsLeft 7 = .ok (.istore_n 3, 1) := by decide +kernel
theorem dX5_editsLeft_8 : decode cX5_editsLeft 8 = .ok (.iconst 0, 1) := by decide +kernel
theorem dX5_editsLeft_9 : decode cX5_editsLeft 9 = .ok (.istore 4, 2) := by decide +kernel
theorem dX5_editsLeft_11 : decode cX5_editsLeft 11 = .ok (.iload 4, 2) := by decide +kernel
theorem dX5_editsLeft_13 : decode cX5_editsLeft 13 = .ok (.aload_n 0, 1) := by decide +kernel
theorem dX5_editsLeft_14 : decode cX5_editsLeft 14 = .ok (.getfield 28, 3) := by decide +kernel
theorem dX5_editsLeft_17 : decode cX5_editsLeft 17 = .ok (.getfield 32, 3) := by decide +kernel
theorem dX5_editsLeft_20 : decode cX5_editsLeft 20 = .ok (.if_icmp .ge 33, 3) := by decide +kernel
theorem dX5_editsLeft_23 : decode cX5_editsLeft 23 = .ok (.iload_n 2, 1) := by decide +kernel
theorem dX5_editsLeft_24 : decode cX5_editsLeft 24 = .ok (.iload 4, 2) := by decide +kernel
theorem dX5_editsLeft_26 : decode cX5_editsLeft 26 = .ok (.ishr, 1) := by decide +kernel
theorem dX5_editsLeft_27 : decode cX5_editsLeft 27 = .ok (.iconst 1, 1) := by decide +kernel
theorem dX5_editsLeft_28 : decode cX5_editsLeft 28 = .ok (.iand, 1) := by decide +kernel
theorem dX5_editsLeft_29 : decode cX5_editsLeft 29 = .ok (.ifCond .ne 18, 3) := by decide +kernel
theorem dX5_editsLeft_32 : decode cX5_editsLeft 32 = .ok (.iload_n 3, 1) := by decide +kernel
theorem dX5_editsLeft_33 : decode cX5_editsLeft 33 = .ok (.aload_n 0, 1) := by decide +kernel
theorem dX5_editsLeft_34 : decode cX5_editsLeft 34 = .ok (.iload 4, 2) := by decide +kernel
theorem dX5_editsLeft_36 : decode cX5_editsLeft 36 = .ok (.iload_n 1, 1) := by decide +kernel
theorem dX5_editsLeft_37 : decode cX5_editsLeft 37 = .ok (.iload 4, 2) := by decide +kernel
theorem dX5_editsLeft_39 : decode cX5_editsLeft 39 = .ok (.invokestatic 99, 3) := by decide +kernel
theorem dX5_editsLeft_42 : decode cX5_editsLeft 42 = .ok (.invokevirtual 89, 3) := by decide +kernel
theorem dX5_editsLeft_45 : decode cX5_editsLeft 45 = .ok (.iand, 1) := by decide +kernel
theorem dX5_editsLeft_46 : decode cX5_editsLeft 46 = .ok (.istore_n 3, 1) := by decide +kernel
theorem dX5_editsLeft_47 : decode cX5_editsLeft 47 = .ok (.iinc 4 1, 3) := by decide +kernel
theorem dX5_editsLeft_50 : decode cX5_editsLeft 50 = .ok (.goto (-39), 3) := by decide +kernel
theorem dX5_editsLeft_53 : decode cX5_editsLeft 53 = .ok (.iload_n 3, 1) := by decide +kernel
theorem dX5_editsLeft_54 : decode cX5_editsLeft 54 = .ok (.ireturn, 1) := by decide +kernel
theorem dX5_editsFailed_0 : decode cX5_editsFailed 0 = .ok (.aload_n 0, 1) := by decide +kernel
theorem dX5_editsFailed_1 : decode cX5_editsFailed 1 = .ok (.iload_n 1, 1) := by decide +kernel
theorem dX5_editsFailed_2 : decode cX5_editsFailed 2 = .ok (.iconst 0, 1) := by decide +kernel
theorem dX5_editsFailed_3 : decode cX5_editsFailed 3 = .ok (.invokevirtual 96, 3) := by decide +kernel
theorem dX5_editsFailed_6 : decode cX5_editsFailed 6 = .ok (.ireturn, 1) := by decide +kernel
theorem dX8_codeOf_0 : decode cX8_codeOf 0 = .ok (.iload_n 1, 1) := by decide +kernel
theorem dX8_codeOf_1 : decode cX8_codeOf 1 = .ok (.ifCond .lt 11, 3) := by decide +kernel
theorem dX8_codeOf_4 : decode cX8_codeOf 4 = .ok (.iload_n 1, 1) := by decide +kernel
theorem dX8_codeOf_5 : decode cX8_codeOf 5 = .ok (.aload_n 0, 1) := by decide +kernel
theorem dX8_codeOf_6 : decode cX8_codeOf 6 = .ok (.getfield 24, 3) := by decide +kernel
theorem dX8_codeOf_9 : decode cX8_codeOf 9 = .ok (.if_icmp .lt 7, 3) := by decide +kernel
theorem dX8_codeOf_12 : decode cX8_codeOf 12 = .ok (.iconst 0, 1) := by decide +kernel
theorem dX8_codeOf_13 : decode cX8_codeOf 13 = .ok (.goto 9, 3) := by decide +kernel
theorem dX8_codeOf_16 : decode cX8_codeOf 16 = .ok (.aload_n 0, 1) := by decide +kernel
theorem dX8_codeOf_17 : decode cX8_codeOf 17 = .ok (.getfield 9, 3) := by decide +kernel
theorem dX8_codeOf_20 : decode cX8_codeOf 20 = .ok (.iload_n 1, 1) := by decide +kernel
theorem dX8_codeOf_21 : decode cX8_codeOf 21 = .ok (.iaload, 1) := by decide +kernel
theorem dX8_codeOf_22 : decode cX8_codeOf 22 = .ok (.ireturn, 1) := by decide +kernel
theorem dX1_missingIn_0 : decode cX1_missingIn 0 = .ok (.iconst 0, 1) := by decide +kernel
theorem dX1_missingIn_1 : decode cX1_missingIn 1 = .ok (.istore_n 2, 1) := by decide +kernel
theorem dX1_missingIn_2 : decode cX1_missingIn 2 = .ok (.iconst 0, 1) := by decide +kernel
theorem dX1_missingIn_3 : decode cX1_missingIn 3 = .ok (.istore_n 3, 1) := by decide +kernel
theorem dX1_missingIn_4 : decode cX1_missingIn 4 = .ok (.iload_n 3, 1) := by decide +kernel
theorem dX1_missingIn_5 : decode cX1_missingIn 5 = .ok (.iload_n 1, 1) := by decide +kernel
theorem dX1_missingIn_6 : decode cX1_missingIn 6 = .ok (.if_icmp .ge 24, 3) := by decide +kernel
theorem dX1_missingIn_9 : decode cX1_missingIn 9 = .ok (.iload_n 0, 1) := by decide +kernel
theorem dX1_missingIn_10 : decode cX1_missingIn 10 = .ok (.iload_n 3, 1) := by decide +kernel
theorem dX1_missingIn_11 : decode cX1_missingIn 11 = .ok (.invokestatic 11, 3) := by decide +kernel
theorem dX1_missingIn_14 : decode cX1_missingIn 14 = .ok (.iconst (-1), 1) := by decide +kernel
theorem dX1_missingIn_15 : decode cX1_missingIn 15 = .ok (.if_icmp .ne 9, 3) := by decide +kernel
theorem dX1_missingIn_18 : decode cX1_missingIn 18 = .ok (.iload_n 2, 1) := by decide +kernel
theorem dX1_missingIn_19 : decode cX1_missingIn 19 = .ok (.iconst 1, 1) := by decide +kernel
theorem dX1_missingIn_20 : decode cX1_missingIn 20 = .ok (.iload_n 3, 1) := by decide +kernel
theorem dX1_missingIn_21 : decode cX1_missingIn 21 = .ok (.ishl, 1) := by decide +kernel
theorem dX1_missingIn_22 : decode cX1_missingIn 22 = .ok (.ior, 1) := by decide +kernel
theorem dX1_missingIn_23 : decode cX1_missingIn 23 = .ok (.istore_n 2, 1) := by decide +kernel
theorem dX1_missingIn_24 : decode cX1_missingIn 24 = .ok (.iinc 3 1, 3) := by decide +kernel
theorem dX1_missingIn_27 : decode cX1_missingIn 27 = .ok (.goto (-23), 3) := by decide +kernel
theorem dX1_missingIn_30 : decode cX1_missingIn 30 = .ok (.iload_n 2, 1) := by decide +kernel
theorem dX1_missingIn_31 : decode cX1_missingIn 31 = .ok (.ireturn, 1) := by decide +kernel
theorem dX0_bitOf_0 : decode cX0_bitOf 0 = .ok (.iconst 1, 1) := by decide +kernel
theorem dX0_bitOf_1 : decode cX0_bitOf 1 = .ok (.iconst 5, 1) := by decide +kernel
theorem dX0_bitOf_2 : decode cX0_bitOf 2 = .ok (.iload_n 0, 1) := by decide +kernel
theorem dX0_bitOf_3 : decode cX0_bitOf 3 = .ok (.imul, 1) := by decide +kernel
theorem dX0_bitOf_4 : decode cX0_bitOf 4 = .ok (.iload_n 1, 1) := by decide +kernel
theorem dX0_bitOf_5 : decode cX0_bitOf 5 = .ok (.iadd, 1) := by decide +kernel
theorem dX0_bitOf_6 : decode cX0_bitOf 6 = .ok (.ishl, 1) := by decide +kernel
theorem dX0_bitOf_7 : decode cX0_bitOf 7 = .ok (.ireturn, 1) := by decide +kernel
theorem dX0_formOf_0 : decode cX0_formOf 0 = .ok (.iconst 0, 1) := by decide +kernel
theorem dX0_formOf_1 : decode cX0_formOf 1 = .ok (.istore_n 2, 1) := by decide +kernel
theorem dX0_formOf_2 : decode cX0_formOf 2 = .ok (.iconst 0, 1) := by decide +kernel
theorem dX0_formOf_3 : decode cX0_formOf 3 = .ok (.istore_n 3, 1) := by decide +kernel
theorem dX0_formOf_4 : decode cX0_formOf 4 = .ok (.iload_n 3, 1) := by decide +kernel
theorem dX0_formOf_5 : decode cX0_formOf 5 = .ok (.aload_n 0, 1) := by decide +kernel
theorem dX0_formOf_6 : decode cX0_formOf 6 = .ok (.getfield 25, 3) := by decide +kernel
theorem dX0_formOf_9 : decode cX0_formOf 9 = .ok (.getfield 49, 3) := by decide +kernel
theorem dX0_formOf_12 : decode cX0_formOf 12 = .ok (.if_icmp .ge 21, 3) := by decide +kernel
theorem dX0_formOf_15 : decode cX0_formOf 15 = .ok (.iload_n 2, 1) := by decide +kernel
theorem dX0_formOf_16 : decode cX0_formOf 16 = .ok (.iload_n 3, 1) := by decide +kernel
theorem dX0_formOf_17 : decode cX0_formOf 17 = .ok (.iload_n 1, 1) := by decide +kernel
theorem dX0_formOf_18 : decode cX0_formOf 18 = .ok (.iload_n 3, 1) := by decide +kernel
theorem dX0_formOf_19 : decode cX0_formOf 19 = .ok (.invokestatic 134, 3) := by decide +kernel
theorem dX0_formOf_22 : decode cX0_formOf 22 = .ok (.invokestatic 131, 3) := by decide +kernel
theorem dX0_formOf_25 : decode cX0_formOf 25 = .ok (.ior, 1) := by decide +kernel
theorem dX0_formOf_26 : decode cX0_formOf 26 = .ok (.istore_n 2, 1) := by decide +kernel
theorem dX0_formOf_27 : decode cX0_formOf 27 = .ok (.iinc 3 1, 3) := by decide +kernel
theorem dX0_formOf_30 : decode cX0_formOf 30 = .ok (.goto (-26), 3) := by decide +kernel
theorem dX0_formOf_33 : decode cX0_formOf 33 = .ok (.iload_n 2, 1) := by decide +kernel
theorem dX0_formOf_34 : decode cX0_formOf 34 = .ok (.ireturn, 1) := by decide +kernel
theorem dX3_has_0 : decode cX3_has 0 = .ok (.lload_n 0, 1) := by decide +kernel
theorem dX3_has_1 : decode cX3_has 1 = .ok (.iload_n 2, 1) := by decide +kernel
theorem dX3_has_2 : decode cX3_has 2 = .ok (.lushr, 1) := by decide +kernel
theorem dX3_has_3 : decode cX3_has 3 = .ok (.lconst 1, 1) := by decide +kernel
theorem dX3_has_4 : decode cX3_has 4 = .ok (.land, 1) := by decide +kernel
theorem dX3_has_5 : decode cX3_has 5 = .ok (.lconst 0, 1) := by decide +kernel
theorem dX3_has_6 : decode cX3_has 6 = .ok (.lcmp, 1) := by decide +kernel
theorem dX3_has_7 : decode cX3_has 7 = .ok (.ifCond .eq 7, 3) := by decide +kernel
theorem dX3_has_10 : decode cX3_has 10 = .ok (.iconst 1, 1) := by decide +kernel
theorem dX3_has_11 : decode cX3_has 11 = .ok (.goto 4, 3) := by decide +kernel
theorem dX3_has_14 : decode cX3_has 14 = .ok (.iconst 0, 1) := by decide +kernel
theorem dX3_has_15 : decode cX3_has 15 = .ok (.ireturn, 1) := by decide +kernel
theorem dX5_canMend_0 : decode cX5_canMend 0 = .ok (.iload_n 1, 1) := by decide +kernel
theorem dX5_canMend_1 : decode cX5_canMend 1 = .ok (.aload_n 0, 1) := by decide +kernel
theorem dX5_canMend_2 : decode cX5_canMend 2 = .ok (.getfield 28, 3) := by decide +kernel
theorem dX5_canMend_5 : decode cX5_canMend 5 = .ok (.getfield 32, 3) := by decide +kernel
theorem dX5_canMend_8 : decode cX5_canMend 8 = .ok (.invokestatic 104, 3) := by decide +kernel
theorem dX5_canMend_11 : decode cX5_canMend 11 = .ok (.iload_n 2, 1) := by decide +kernel
theorem dX5_canMend_12 : decode cX5_canMend 12 = .ok (.iconst (-1), 1) := by decide +kernel
theorem dX5_canMend_13 : decode cX5_canMend 13 = .ok (.ixor, 1) := by decide +kernel
theorem dX5_canMend_14 : decode cX5_canMend 14 = .ok (.iand, 1) := by decide +kernel
theorem dX5_canMend_15 : decode cX5_canMend 15 = .ok (.ifCond .ne 25, 3) := by decide +kernel
theorem dX5_canMend_18 : decode cX5_canMend 18 = .ok (.aload_n 0, 1) := by decide +kernel
theorem dX5_canMend_19 : decode cX5_canMend 19 = .ok (.getfield 18, 3) := by decide +kernel
theorem dX5_canMend_22 : decode cX5_canMend 22 = .ok (.iload_n 2, 1) := by decide +kernel
theorem dX5_canMend_23 : decode cX5_canMend 23 = .ok (.laload, 1) := by decide +kernel
theorem dX5_canMend_24 : decode cX5_canMend 24 = .ok (.aload_n 0, 1) := by decide +kernel
theorem dX5_canMend_25 : decode cX5_canMend 25 = .ok (.iload_n 1, 1) := by decide +kernel
theorem dX5_canMend_26 : decode cX5_canMend 26 = .ok (.iload_n 2, 1) := by decide +kernel
theorem dX5_canMend_27 : decode cX5_canMend 27 = .ok (.invokevirtual 96, 3) := by decide +kernel
theorem dX5_canMend_30 : decode cX5_canMend 30 = .ok (.invokestatic 107, 3) := by decide +kernel
theorem dX5_canMend_33 : decode cX5_canMend 33 = .ok (.ifCond .eq 7, 3) := by decide +kernel
theorem dX5_canMend_36 : decode cX5_canMend 36 = .ok (.iconst 1, 1) := by decide +kernel
theorem dX5_canMend_37 : decode cX5_canMend 37 = .ok (.goto 4, 3) := by decide +kernel
theorem dX5_canMend_40 : decode cX5_canMend 40 = .ok (.iconst 0, 1) := by decide +kernel
theorem dX5_canMend_41 : decode cX5_canMend 41 = .ok (.ireturn, 1) := by decide +kernel
theorem dX5_countWays_0 : decode cX5_countWays 0 = .ok (.aload_n 0, 1) := by decide +kernel
theorem dX5_countWays_1 : decode cX5_countWays 1 = .ok (.iload_n 1, 1) := by decide +kernel
theorem dX5_countWays_2 : decode cX5_countWays 2 = .ok (.iload_n 2, 1) := by decide +kernel
theorem dX5_countWays_3 : decode cX5_countWays 3 = .ok (.invokevirtual 111, 3) := by decide +kernel
theorem dX5_countWays_6 : decode cX5_countWays 6 = .ok (.ifCond .eq 17, 3) := by decide +kernel
theorem dX5_countWays_9 : decode cX5_countWays 9 = .ok (.aload_n 0, 1) := by decide +kernel
theorem dX5_countWays_10 : decode cX5_countWays 10 = .ok (.aload_n 0, 1) := by decide +kernel
theorem dX5_countWays_11 : decode cX5_countWays 11 = .ok (.iload_n 1, 1) := by decide +kernel
theorem dX5_countWays_12 : decode cX5_countWays 12 = .ok (.iload_n 2, 1) := by decide +kernel
theorem dX5_countWays_13 : decode cX5_countWays 13 = .ok (.invokevirtual 96, 3) := by decide +kernel
theorem dX5_countWays_16 : decode cX5_countWays 16 = .ok (.iload_n 2, 1) := by decide +kernel
theorem dX5_countWays_17 : decode cX5_countWays 17 = .ok (.invokevirtual 65, 3) := by decide +kernel
theorem dX5_countWays_20 : decode cX5_countWays 20 = .ok (.goto 4, 3) := by decide +kernel
theorem dX5_countWays_23 : decode cX5_countWays 23 = .ok (.iconst 0, 1) := by decide +kernel
theorem dX5_countWays_24 : decode cX5_countWays 24 = .ok (.ireturn, 1) := by decide +kernel
theorem dX5_leastSet_0 : decode cX5_leastSet 0 = .ok (.iconst 0, 1) := by decide +kernel
theorem dX5_leastSet_1 : decode cX5_leastSet 1 = .ok (.istore_n 2, 1) := by decide +kernel
theorem dX5_leastSet_2 : decode cX5_leastSet 2 = .ok (.iload_n 2, 1) := by decide +kernel
theorem dX5_leastSet_3 : decode cX5_leastSet 3 = .ok (.aload_n 0, 1) := by decide +kernel
theorem dX5_leastSet_4 : decode cX5_leastSet 4 = .ok (.getfield 28, 3) := by decide +kernel
theorem dX5_leastSet_7 : decode cX5_leastSet 7 = .ok (.invokevirtual 62, 3) := by decide +kernel
theorem dX5_leastSet_10 : decode cX5_leastSet 10 = .ok (.if_icmp .gt 30, 3) := by decide +kernel
theorem dX5_leastSet_13 : decode cX5_leastSet 13 = .ok (.aload_n 0, 1) := by decide +kernel
theorem dX5_leastSet_14 : decode cX5_leastSet 14 = .ok (.iload_n 1, 1) := by decide +kernel
theorem dX5_leastSet_15 : decode cX5_leastSet 15 = .ok (.aload_n 0, 1) := by decide +kernel
theorem dX5_leastSet_16 : decode cX5_leastSet 16 = .ok (.getfield 15, 3) := by decide +kernel
theorem dX5_leastSet_19 : decode cX5_leastSet 19 = .ok (.iload_n 2, 1) := by decide +kernel
theorem dX5_leastSet_20 : decode cX5_leastSet 20 = .ok (.iaload, 1) := by decide +kernel
theorem dX5_leastSet_21 : decode cX5_leastSet 21 = .ok (.invokevirtual 111, 3) := by decide +kernel
theorem dX5_leastSet_24 : decode cX5_leastSet 24 = .ok (.ifCond .eq 10, 3) := by decide +kernel
theorem dX5_leastSet_27 : decode cX5_leastSet 27 = .ok (.aload_n 0, 1) := by decide +kernel
theorem dX5_leastSet_28 : decode cX5_leastSet 28 = .ok (.getfield 15, 3) := by decide +kernel
theorem dX5_leastSet_31 : decode cX5_leastSet 31 = .ok (.iload_n 2, 1) := by decide +kernel
theorem dX5_leastSet_32 : decode cX5_leastSet 32 = .ok (.iaload, 1) := by decide +kernel
theorem dX5_leastSet_33 : decode cX5_leastSet 33 = .ok (.ireturn, 1) := by decide +kernel
theorem dX5_leastSet_34 : decode cX5_leastSet 34 = .ok (.iinc 2 1, 3) := by decide +kernel
theorem dX5_leastSet_37 : decode cX5_leastSet 37 = .ok (.goto (-35), 3) := by decide +kernel
theorem dX5_leastSet_40 : decode cX5_leastSet 40 = .ok (.iconst (-1), 1) := by decide +kernel
theorem dX5_leastSet_41 : decode cX5_leastSet 41 = .ok (.ireturn, 1) := by decide +kernel
theorem dX5_leastWeight_0 : decode cX5_leastWeight 0 = .ok (.aload_n 0, 1) := by decide +kernel
theorem dX5_leastWeight_1 : decode cX5_leastWeight 1 = .ok (.iload_n 1, 1) := by decide +kernel
theorem dX5_leastWeight_2 : decode cX5_leastWeight 2 = .ok (.invokevirtual 128, 3) := by decide +kernel
theorem dX5_leastWeight_5 : decode cX5_leastWeight 5 = .ok (.istore_n 2, 1) := by decide +kernel
theorem dX5_leastWeight_6 : decode cX5_leastWeight 6 = .ok (.iload_n 2, 1) := by decide +kernel
theorem dX5_leastWeight_7 : decode cX5_leastWeight 7 = .ok (.iconst (-1), 1) := by decide +kernel
theorem dX5_leastWeight_8 : decode cX5_leastWeight 8 = .ok (.if_icmp .ne 7, 3) := by decide +kernel
theorem dX5_leastWeight_11 : decode cX5_leastWeight 11 = .ok (.iconst (-1), 1) := by decide +kernel
theorem dX5_leastWeight_12 : decode cX5_leastWeight 12 = .ok (.goto 11, 3) := by decide +kernel
theorem dX5_leastWeight_15 : decode cX5_leastWeight 15 = .ok (.aload_n 0, 1) := by decide +kernel
theorem dX5_leastWeight_16 : decode cX5_leastWeight 16 = .ok (.getfield 28, 3) := by decide +kernel
theorem dX5_leastWeight_19 : decode cX5_leastWeight 19 = .ok (.iload_n 2, 1) := by decide +kernel
theorem dX5_leastWeight_20 : decode cX5_leastWeight 20 = .ok (.invokevirtual 75, 3) := by decide +kernel
theorem dX5_leastWeight_23 : decode cX5_leastWeight 23 = .ok (.ireturn, 1) := by decide +kernel
theorem dX5_countLeast_0 : decode cX5_countLeast 0 = .ok (.aload_n 0, 1) := by decide +kernel
theorem dX5_countLeast_1 : decode cX5_countLeast 1 = .ok (.iload_n 1, 1) := by decide +kernel
theorem dX5_countLeast_2 : decode cX5_countLeast 2 = .ok (.invokevirtual 131, 3) := by decide +kernel
theorem dX5_countLeast_5 : decode cX5_countLeast 5 = .ok (.istore_n 2, 1) := by decide +kernel
theorem dX5_countLeast_6 : decode cX5_countLeast 6 = .ok (.iconst 0, 1) := by decide +kernel
theorem dX5_countLeast_7 : decode cX5_countLeast 7 = .ok (.istore_n 3, 1) := by decide +kernel
theorem dX5_countLeast_8 : decode cX5_countLeast 8 = .ok (.iconst 0, 1) := by decide +kernel
theorem dX5_countLeast_9 : decode cX5_countLeast 9 = .ok (.istore 4, 2) := by decide +kernel
theorem dX5_countLeast_11 : decode cX5_countLeast 11 = .ok (.iload 4, 2) := by decide +kernel
theorem dX5_countLeast_13 : decode cX5_countLeast 13 = .ok (.aload_n 0, 1) := by decide +kernel
theorem dX5_countLeast_14 : decode cX5_countLeast 14 = .ok (.getfield 28, 3) := by decide +kernel
theorem dX5_countLeast_17 : decode cX5_countLeast 17 = .ok (.invokevirtual 62, 3) := by decide +kernel
theorem dX5_countLeast_20 : decode cX5_countLeast 20 = .ok (.if_icmp .gt 35, 3) := by decide +kernel
theorem dX5_countLeast_23 : decode cX5_countLeast 23 = .ok (.aload_n 0, 1) := by decide +kernel
theorem dX5_countLeast_24 : decode cX5_countLeast 24 = .ok (.getfield 28, 3) := by decide +kernel
theorem dX5_countLeast_27 : decode cX5_countLeast 27 = .ok (.iload 4, 2) := by decide +kernel
theorem dX5_countLeast_29 : decode cX5_countLeast 29 = .ok (.invokevirtual 75, 3) := by decide +kernel
theorem dX5_countLeast_32 : decode cX5_countLeast 32 = .ok (.iload_n 2, 1) := by decide +kernel
theorem dX5_countLeast_33 : decode cX5_countLeast 33 = .ok (.if_icmp .ne 16, 3) := by decide +kernel
theorem dX5_countLeast_36 : decode cX5_countLeast 36 = .ok (.aload_n 0, 1) := by decide +kernel
theorem dX5_countLeast_37 : decode cX5_countLeast 37 = .ok (.iload_n 1, 1) := by decide +kernel
theorem dX5_countLeast_38 : decode cX5_countLeast 38 = .ok (.iload 4, 2) := by decide +kernel
theorem dX5_countLeast_40 : decode cX5_countLeast 40 = .ok (.invokevirtual 111, 3) := by decide +kernel
theorem dX5_countLeast_43 : decode cX5_countLeast 43 = .ok (.ifCond .eq 6, 3) := by decide +kernel
theorem dX5_countLeast_46 : decode cX5_countLeast 46 = .ok (.iinc 3 1, 3) := by decide +kernel
theorem dX5_countLeast_49 : decode cX5_countLeast 49 = .ok (.iinc 4 1, 3) := by decide +kernel
theorem dX5_countLeast_52 : decode cX5_countLeast 52 = .ok (.goto (-41), 3) := by decide +kernel
theorem dX5_countLeast_55 : decode cX5_countLeast 55 = .ok (.iload_n 3, 1) := by decide +kernel
theorem dX5_countLeast_56 : decode cX5_countLeast 56 = .ok (.ireturn, 1) := by decide +kernel
theorem dX5_leastAt_0 : decode cX5_leastAt 0 = .ok (.aload_n 0, 1) := by decide +kernel
theorem dX5_leastAt_1 : decode cX5_leastAt 1 = .ok (.iload_n 1, 1) := by decide +kernel
theorem dX5_leastAt_2 : decode cX5_leastAt 2 = .ok (.invokevirtual 131, 3) := by decide +kernel
theorem dX5_leastAt_5 : decode cX5_leastAt 5 = .ok (.istore_n 3, 1) := by decide +kernel
theorem dX5_leastAt_6 : decode cX5_leastAt 6 = .ok (.iconst 0, 1) := by decide +kernel
theorem dX5_leastAt_7 : decode cX5_leastAt 7 = .ok (.istore 4, 2) := by decide +kernel
theorem dX5_leastAt_9 : decode cX5_leastAt 9 = .ok (.iconst 0, 1) := by decide +kernel
theorem dX5_leastAt_10 : decode cX5_leastAt 10 = .ok (.istore 5, 2) := by decide +kernel
theorem dX5_leastAt_12 : decode cX5_leastAt 12 = .ok (.iload 5, 2) := by decide +kernel
theorem dX5_leastAt_14 : decode cX5_leastAt 14 = .ok (.aload_n 0, 1) := by decide +kernel
theorem dX5_leastAt_15 : decode cX5_leastAt 15 = .ok (.getfield 28, 3) := by decide +kernel
theorem dX5_leastAt_18 : decode cX5_leastAt 18 = .ok (.invokevirtual 62, 3) := by decide +kernel
theorem dX5_leastAt_21 : decode cX5_leastAt 21 = .ok (.if_icmp .gt 44, 3) := by decide +kernel
theorem dX5_leastAt_24 : decode cX5_leastAt 24 = .ok (.aload_n 0, 1) := by decide +kernel
theorem dX5_leastAt_25 : decode cX5_leastAt 25 = .ok (.getfield 28, 3) := by decide +kernel
theorem dX5_leastAt_28 : decode cX5_leastAt 28 = .ok (.iload 5, 2) := by decide +kernel
theorem dX5_leastAt_30 : decode cX5_leastAt 30 = .ok (.invokevirtual 75, 3) := by decide +kernel
theorem dX5_leastAt_33 : decode cX5_leastAt 33 = .ok (.iload_n 3, 1) := by decide +kernel
theorem dX5_leastAt_34 : decode cX5_leastAt 34 = .ok (.if_icmp .ne 25, 3) := by decide +kernel
theorem dX5_leastAt_37 : decode cX5_leastAt 37 = .ok (.aload_n 0, 1) := by decide +kernel
theorem dX5_leastAt_38 : decode cX5_leastAt 38 = .ok (.iload_n 1, 1) := by decide +kernel
theorem dX5_leastAt_39 : decode cX5_leastAt 39 = .ok (.iload 5, 2) := by decide +kernel
theorem dX5_leastAt_41 : decode cX5_leastAt 41 = .ok (.invokevirtual 111, 3) := by decide +kernel
theorem dX5_leastAt_44 : decode cX5_leastAt 44 = .ok (.ifCond .eq 15, 3) := by decide +kernel
theorem dX5_leastAt_47 : decode cX5_leastAt 47 = .ok (.iload 4, 2) := by decide +kernel
theorem dX5_leastAt_49 : decode cX5_leastAt 49 = .ok (.iload_n 2, 1) := by decide +kernel
theorem dX5_leastAt_50 : decode cX5_leastAt 50 = .ok (.if_icmp .ne 6, 3) := by decide +kernel
theorem dX5_leastAt_53 : decode cX5_leastAt 53 = .ok (.iload 5, 2) := by decide +kernel
theorem dX5_leastAt_55 : decode cX5_leastAt 55 = .ok (.ireturn, 1) := by decide +kernel
theorem dX5_leastAt_56 : decode cX5_leastAt 56 = .ok (.iinc 4 1, 3) := by decide +kernel
theorem dX5_leastAt_59 : decode cX5_leastAt 59 = .ok (.iinc 5 1, 3) := by decide +kernel
theorem dX5_leastAt_62 : decode cX5_leastAt 62 = .ok (.goto (-50), 3) := by decide +kernel
theorem dX5_leastAt_65 : decode cX5_leastAt 65 = .ok (.iconst (-1), 1) := by decide +kernel
theorem dX5_leastAt_66 : decode cX5_leastAt 66 = .ok (.ireturn, 1) := by decide +kernel
theorem dX5_curingValues_0 : decode cX5_curingValues 0 = .ok (.iconst 0, 1) := by decide +kernel
theorem dX5_curingValues_1 : decode cX5_curingValues 1 = .ok (.istore 4, 2) := by decide +kernel
theorem dX5_curingValues_3 : decode cX5_curingValues 3 = .ok (.iconst 0, 1) := by decide +kernel
theorem dX5_curingValues_4 : decode cX5_curingValues 4 = .ok (.istore 5, 2) := by decide +kernel
theorem dX5_curingValues_6 : decode cX5_curingValues 6 = .ok (.iload 5, 2) := by decide +kernel
theorem dX5_curingValues_8 : decode cX5_curingValues 8 = .ok (.aload_n 0, 1) := by decide +kernel
theorem dX5_curingValues_9 : decode cX5_curingValues 9 = .ok (.getfield 28, 3) := by decide +kernel
theorem dX5_curingValues_12 : decode cX5_curingValues 12 = .ok (.getfield 42, 3) := by decide +kernel
theorem dX5_curingValues_15 : decode cX5_curingValues 15 = .ok (.iload_n 3, 1) := by decide +kernel
theorem dX5_curingValues_16 : decode cX5_curingValues 16 = .ok (.iaload, 1) := by decide +kernel
theorem dX5_curingValues_17 : decode cX5_curingValues 17 = .ok (.if_icmp .ge 45, 3) := by decide +kernel
theorem dX5_curingValues_20 : decode cX5_curingValues 20 = .ok (.aload_n 0, 1) := by decide +kernel
theorem dX5_curingValues_21 : decode cX5_curingValues 21 = .ok (.getfield 18, 3) := by decide +kernel
theorem dX5_curingValues_24 : decode cX5_curingValues 24 = .ok (.iload_n 2, 1) := by decide +kernel
theorem dX5_curingValues_25 : decode cX5_curingValues 25 = .ok (.iconst 1, 1) := by decide +kernel
theorem dX5_curingValues_26 : decode cX5_curingValues 26 = .ok (.iload_n 3, 1) := by decide +kernel
theorem dX5_curingValues_27 : decode cX5_curingValues 27 = .ok (.ishl, 1) := by decide +kernel
theorem dX5_curingValues_28 : decode cX5_curingValues 28 = .ok (.iconst (-1), 1) := by decide +kernel
theorem dX5_curingValues_29 : decode cX5_curingValues 29 = .ok (.ixor, 1) := by decide +kernel
theorem dX5_curingValues_30 : decode cX5_curingValues 30 = .ok (.iand, 1) := by decide +kernel
theorem dX5_curingValues_31 : decode cX5_curingValues 31 = .ok (.laload, 1) := by decide +kernel
theorem dX5_curingValues_32 : decode cX5_curingValues 32 = .ok (.iload_n 1, 1) := by decide +kernel
theorem dX5_curingValues_33 : decode cX5_curingValues 33 = .ok (.aload_n 0, 1) := by decide +kernel
theorem dX5_curingValues_34 : decode cX5_curingValues 34 = .ok (.iload_n 3, 1) := by decide +kernel
theorem dX5_curingValues_35 : decode cX5_curingValues 35 = .ok (.iload 5, 2) := by decide +kernel
theorem dX5_curingValues_37 : decode cX5_curingValues 37 = .ok (.invokevirtual 89, 3) := by decide +kernel
theorem dX5_curingValues_40 : decode cX5_curingValues 40 = .ok (.iand, 1) := by decide +kernel
theorem dX5_curingValues_41 : decode cX5_curingValues 41 = .ok (.invokestatic 107, 3) := by decide +kernel
theorem dX5_curingValues_44 : decode cX5_curingValues 44 = .ok (.ifCond .eq 12, 3) := by decide +kernel
theorem dX5_curingValues_47 : decode cX5_curingValues 47 = .ok (.iload 4, 2) := by decide +kernel
theorem dX5_curingValues_49 : decode cX5_curingValues 49 = .ok (.iconst 1, 1) := by decide +kernel
theorem dX5_curingValues_50 : decode cX5_curingValues 50 = .ok (.iload 5, 2) := by decide +kernel
theorem dX5_curingValues_52 : decode cX5_curingValues 52 = .ok (.ishl, 1) := by decide +kernel
theorem dX5_curingValues_53 : decode cX5_curingValues 53 = .ok (.ior, 1) := by decide +kernel
theorem dX5_curingValues_54 : decode cX5_curingValues 54 = .ok (.istore 4, 2) := by decide +kernel
theorem dX5_curingValues_56 : decode cX5_curingValues 56 = .ok (.iinc 5 1, 3) := by decide +kernel
theorem dX5_curingValues_59 : decode cX5_curingValues 59 = .ok (.goto (-53), 3) := by decide +kernel
theorem dX5_curingValues_62 : decode cX5_curingValues 62 = .ok (.iload 4, 2) := by decide +kernel
theorem dX5_curingValues_64 : decode cX5_curingValues 64 = .ok (.ireturn, 1) := by decide +kernel
theorem dX5_valuesIn_0 : decode cX5_valuesIn 0 = .ok (.aload_n 0, 1) := by decide +kernel
theorem dX5_valuesIn_1 : decode cX5_valuesIn 1 = .ok (.iload_n 1, 1) := by decide +kernel
theorem dX5_valuesIn_2 : decode cX5_valuesIn 2 = .ok (.iload_n 2, 1) := by decide +kernel
theorem dX5_valuesIn_3 : decode cX5_valuesIn 3 = .ok (.invokevirtual 111, 3) := by decide +kernel
theorem dX5_valuesIn_6 : decode cX5_valuesIn 6 = .ok (.ifCond .ne 5, 3) := by decide +kernel
theorem dX5_valuesIn_9 : decode cX5_valuesIn 9 = .ok (.iconst 0, 1) := by decide +kernel
theorem dX5_valuesIn_10 : decode cX5_valuesIn 10 = .ok (.ireturn, 1) := by decide +kernel
theorem dX5_valuesIn_11 : decode cX5_valuesIn 11 = .ok (.iload_n 2, 1) := by decide +kernel
theorem dX5_valuesIn_12 : decode cX5_valuesIn 12 = .ok (.iload_n 3, 1) := by decide +kernel
theorem dX5_valuesIn_13 : decode cX5_valuesIn 13 = .ok (.ishr, 1) := by decide +kernel
theorem dX5_valuesIn_14 : decode cX5_valuesIn 14 = .ok (.iconst 1, 1) := by decide +kernel
theorem dX5_valuesIn_15 : decode cX5_valuesIn 15 = .ok (.iand, 1) := by decide +kernel
theorem dX5_valuesIn_16 : decode cX5_valuesIn 16 = .ok (.ifCond .ne 11, 3) := by decide +kernel
theorem dX5_valuesIn_19 : decode cX5_valuesIn 19 = .ok (.iconst 1, 1) := by decide +kernel
theorem dX5_valuesIn_20 : decode cX5_valuesIn 20 = .ok (.iload_n 1, 1) := by decide +kernel
theorem dX5_valuesIn_21 : decode cX5_valuesIn 21 = .ok (.iload_n 3, 1) := by decide +kernel
theorem dX5_valuesIn_22 : decode cX5_valuesIn 22 = .ok (.invokestatic 99, 3) := by decide +kernel
theorem dX5_valuesIn_25 : decode cX5_valuesIn 25 = .ok (.ishl, 1) := by decide +kernel
theorem dX5_valuesIn_26 : decode cX5_valuesIn 26 = .ok (.ireturn, 1) := by decide +kernel
theorem dX5_valuesIn_27 : decode cX5_valuesIn 27 = .ok (.aload_n 0, 1) := by decide +kernel
theorem dX5_valuesIn_28 : decode cX5_valuesIn 28 = .ok (.aload_n 0, 1) := by decide +kernel
theorem dX5_valuesIn_29 : decode cX5_valuesIn 29 = .ok (.iload_n 1, 1) := by decide +kernel
theorem dX5_valuesIn_30 : decode cX5_valuesIn 30 = .ok (.iload_n 2, 1) := by decide +kernel
theorem dX5_valuesIn_31 : decode cX5_valuesIn 31 = .ok (.invokevirtual 96, 3) := by decide +kernel
theorem dX5_valuesIn_34 : decode cX5_valuesIn 34 = .ok (.iload_n 2, 1) := by decide +kernel
theorem dX5_valuesIn_35 : decode cX5_valuesIn 35 = .ok (.iload_n 3, 1) := by decide +kernel
theorem dX5_valuesIn_36 : decode cX5_valuesIn 36 = .ok (.invokevirtual 124, 3) := by decide +kernel
theorem dX5_valuesIn_39 : decode cX5_valuesIn 39 = .ok (.ireturn, 1) := by decide +kernel
theorem dX5_forcedIn_0 : decode cX5_forcedIn 0 = .ok (.aload_n 0, 1) := by decide +kernel
theorem dX5_forcedIn_1 : decode cX5_forcedIn 1 = .ok (.iload_n 1, 1) := by decide +kernel
theorem dX5_forcedIn_2 : decode cX5_forcedIn 2 = .ok (.invokevirtual 128, 3) := by decide +kernel
theorem dX5_forcedIn_5 : decode cX5_forcedIn 5 = .ok (.istore_n 2, 1) := by decide +kernel
theorem dX5_forcedIn_6 : decode cX5_forcedIn 6 = .ok (.iconst 0, 1) := by decide +kernel
theorem dX5_forcedIn_7 : decode cX5_forcedIn 7 = .ok (.istore_n 3, 1) := by decide +kernel
theorem dX5_forcedIn_8 : decode cX5_forcedIn 8 = .ok (.iconst 0, 1) := by decide +kernel
theorem dX5_forcedIn_9 : decode cX5_forcedIn 9 = .ok (.istore 4, 2) := by decide +kernel
theorem dX5_forcedIn_11 : decode cX5_forcedIn 11 = .ok (.iload 4, 2) := by decide +kernel
theorem dX5_forcedIn_13 : decode cX5_forcedIn 13 = .ok (.aload_n 0, 1) := by decide +kernel
theorem dX5_forcedIn_14 : decode cX5_forcedIn 14 = .ok (.getfield 28, 3) := by decide +kernel
theorem dX5_forcedIn_17 : decode cX5_forcedIn 17 = .ok (.getfield 32, 3) := by decide +kernel
theorem dX5_forcedIn_20 : decode cX5_forcedIn 20 = .ok (.if_icmp .ge 45, 3) := by decide +kernel
theorem dX5_forcedIn_23 : decode cX5_forcedIn 23 = .ok (.iload_n 2, 1) := by decide +kernel
theorem dX5_forcedIn_24 : decode cX5_forcedIn 24 = .ok (.iconst (-1), 1) := by decide +kernel
theorem dX5_forcedIn_25 : decode cX5_forcedIn 25 = .ok (.if_icmp .eq 40, 3) := by decide +kernel
theorem dX5_forcedIn_28 : decode cX5_forcedIn 28 = .ok (.iload_n 2, 1) := by decide +kernel
theorem dX5_forcedIn_29 : decode cX5_forcedIn 29 = .ok (.iload 4, 2) := by decide +kernel
theorem dX5_forcedIn_31 : decode cX5_forcedIn 31 = .ok (.ishr, 1) := by decide +kernel
theorem dX5_forcedIn_32 : decode cX5_forcedIn 32 = .ok (.iconst 1, 1) := by decide +kernel
theorem dX5_forcedIn_33 : decode cX5_forcedIn 33 = .ok (.iand, 1) := by decide +kernel
theorem dX5_forcedIn_34 : decode cX5_forcedIn 34 = .ok (.ifCond .eq 25, 3) := by decide +kernel
theorem dX5_forcedIn_37 : decode cX5_forcedIn 37 = .ok (.aload_n 0, 1) := by decide +kernel
theorem dX5_forcedIn_38 : decode cX5_forcedIn 38 = .ok (.iload_n 1, 1) := by decide +kernel
theorem dX5_forcedIn_39 : decode cX5_forcedIn 39 = .ok (.iload_n 2, 1) := by decide +kernel
theorem dX5_forcedIn_40 : decode cX5_forcedIn 40 = .ok (.iload 4, 2) := by decide +kernel
theorem dX5_forcedIn_42 : decode cX5_forcedIn 42 = .ok (.invokevirtual 134, 3) := by decide +kernel
theorem dX5_forcedIn_45 : decode cX5_forcedIn 45 = .ok (.invokestatic 78, 3) := by decide +kernel
theorem dX5_forcedIn_48 : decode cX5_forcedIn 48 = .ok (.iconst 1, 1) := by decide +kernel
theorem dX5_forcedIn_49 : decode cX5_forcedIn 49 = .ok (.if_icmp .ne 10, 3) := by decide +kernel
theorem dX5_forcedIn_52 : decode cX5_forcedIn 52 = .ok (.iload_n 3, 1) := by decide +kernel
theorem dX5_forcedIn_53 : decode cX5_forcedIn 53 = .ok (.iconst 1, 1) := by decide +kernel
theorem dX5_forcedIn_54 : decode cX5_forcedIn 54 = .ok (.iload 4, 2) := by decide +kernel
theorem dX5_forcedIn_56 : decode cX5_forcedIn 56 = .ok (.ishl, 1) := by decide +kernel
theorem dX5_forcedIn_57 : decode cX5_forcedIn 57 = .ok (.ior, 1) := by decide +kernel
theorem dX5_forcedIn_58 : decode cX5_forcedIn 58 = .ok (.istore_n 3, 1) := by decide +kernel
theorem dX5_forcedIn_59 : decode cX5_forcedIn 59 = .ok (.iinc 4 1, 3) := by decide +kernel
theorem dX5_forcedIn_62 : decode cX5_forcedIn 62 = .ok (.goto (-51), 3) := by decide +kernel
theorem dX5_forcedIn_65 : decode cX5_forcedIn 65 = .ok (.iload_n 3, 1) := by decide +kernel
theorem dX5_forcedIn_66 : decode cX5_forcedIn 66 = .ok (.ireturn, 1) := by decide +kernel
theorem dX5_isRight_0 : decode cX5_isRight 0 = .ok (.iload_n 1, 1) := by decide +kernel
theorem dX5_isRight_1 : decode cX5_isRight 1 = .ok (.aload_n 0, 1) := by decide +kernel
theorem dX5_isRight_2 : decode cX5_isRight 2 = .ok (.getfield 28, 3) := by decide +kernel
theorem dX5_isRight_5 : decode cX5_isRight 5 = .ok (.getfield 32, 3) := by decide +kernel
theorem dX5_isRight_8 : decode cX5_isRight 8 = .ok (.invokestatic 104, 3) := by decide +kernel
theorem dX5_isRight_11 : decode cX5_isRight 11 = .ok (.ifCond .ne 16, 3) := by decide +kernel
theorem dX5_isRight_14 : decode cX5_isRight 14 = .ok (.aload_n 0, 1) := by decide +kernel
theorem dX5_isRight_15 : decode cX5_isRight 15 = .ok (.iload_n 1, 1) := by decide +kernel
theorem dX5_isRight_16 : decode cX5_isRight 16 = .ok (.iconst 0, 1) := by decide +kernel
theorem dX5_isRight_17 : decode cX5_isRight 17 = .ok (.invokevirtual 96, 3) := by decide +kernel
theorem dX5_isRight_20 : decode cX5_isRight 20 = .ok (.ifCond .ne 7, 3) := by decide +kernel
theorem dX5_isRight_23 : decode cX5_isRight 23 = .ok (.iconst 1, 1) := by decide +kernel
theorem dX5_isRight_24 : decode cX5_isRight 24 = .ok (.goto 4, 3) := by decide +kernel
theorem dX5_isRight_27 : decode cX5_isRight 27 = .ok (.iconst 0, 1) := by decide +kernel
theorem dX5_isRight_28 : decode cX5_isRight 28 = .ok (.ireturn, 1) := by decide +kernel
theorem dX2_isOfGroup_0 : decode cX2_isOfGroup 0 = .ok (.aload_n 0, 1) := by decide +kernel
theorem dX2_isOfGroup_1 : decode cX2_isOfGroup 1 = .ok (.getfield 18, 3) := by decide +kernel
theorem dX2_isOfGroup_4 : decode cX2_isOfGroup 4 = .ok (.getfield 75, 3) := by decide +kernel
theorem dX2_isOfGroup_7 : decode cX2_isOfGroup 7 = .ok (.istore 4, 2) := by decide +kernel
theorem dX2_isOfGroup_9 : decode cX2_isOfGroup 9 = .ok (.iload 4, 2) := by decide +kernel
theorem dX2_isOfGroup_11 : decode cX2_isOfGroup 11 = .ok (.iconst (-1), 1) := by decide +kernel
theorem dX2_isOfGroup_12 : decode cX2_isOfGroup 12 = .ok (.if_icmp .eq 27, 3) := by decide +kernel
theorem dX2_isOfGroup_15 : decode cX2_isOfGroup 15 = .ok (.iload_n 3, 1) := by decide +kernel
theorem dX2_isOfGroup_16 : decode cX2_isOfGroup 16 = .ok (.iload 4, 2) := by decide +kernel
theorem dX2_isOfGroup_18 : decode cX2_isOfGroup 18 = .ok (.ishr, 1) := by decide +kernel
theorem dX2_isOfGroup_19 : decode cX2_isOfGroup 19 = .ok (.iconst 1, 1) := by decide +kernel
theorem dX2_isOfGroup_20 : decode cX2_isOfGroup 20 = .ok (.iand, 1) := by decide +kernel
theorem dX2_isOfGroup_21 : decode cX2_isOfGroup 21 = .ok (.ifCond .ne 18, 3) := by decide +kernel
theorem dX2_isOfGroup_24 : decode cX2_isOfGroup 24 = .ok (.iload_n 1, 1) := by decide +kernel
theorem dX2_isOfGroup_25 : decode cX2_isOfGroup 25 = .ok (.iload 4, 2) := by decide +kernel
theorem dX2_isOfGroup_27 : decode cX2_isOfGroup 27 = .ok (.invokestatic 78, 3) := by decide +kernel
theorem dX2_isOfGroup_30 : decode cX2_isOfGroup 30 = .ok (.iload_n 2, 1) := by decide +kernel
theorem dX2_isOfGroup_31 : decode cX2_isOfGroup 31 = .ok (.iload 4, 2) := by decide +kernel
theorem dX2_isOfGroup_33 : decode cX2_isOfGroup 33 = .ok (.invokestatic 78, 3) := by decide +kernel
theorem dX2_isOfGroup_36 : decode cX2_isOfGroup 36 = .ok (.if_icmp .ne 7, 3) := by decide +kernel
theorem dX2_isOfGroup_39 : decode cX2_isOfGroup 39 = .ok (.iconst 1, 1) := by decide +kernel
theorem dX2_isOfGroup_40 : decode cX2_isOfGroup 40 = .ok (.goto 4, 3) := by decide +kernel
theorem dX2_isOfGroup_43 : decode cX2_isOfGroup 43 = .ok (.iconst 0, 1) := by decide +kernel
theorem dX2_isOfGroup_44 : decode cX2_isOfGroup 44 = .ok (.ireturn, 1) := by decide +kernel
theorem dX1_part_0 : decode cX1_part 0 = .ok (.iconst 0, 1) := by decide +kernel
theorem dX1_part_1 : decode cX1_part 1 = .ok (.istore_n 2, 1) := by decide +kernel
theorem dX1_part_2 : decode cX1_part 2 = .ok (.iconst 0, 1) := by decide +kernel
theorem dX1_part_3 : decode cX1_part 3 = .ok (.istore_n 3, 1) := by decide +kernel
theorem dX1_part_4 : decode cX1_part 4 = .ok (.iload_n 3, 1) := by decide +kernel
theorem dX1_part_5 : decode cX1_part 5 = .ok (.iconst 5, 1) := by decide +kernel
theorem dX1_part_6 : decode cX1_part 6 = .ok (.if_icmp .ge 26, 3) := by decide +kernel
theorem dX1_part_9 : decode cX1_part 9 = .ok (.iload_n 1, 1) := by decide +kernel
theorem dX1_part_10 : decode cX1_part 10 = .ok (.iload_n 3, 1) := by decide +kernel
theorem dX1_part_11 : decode cX1_part 11 = .ok (.ishr, 1) := by decide +kernel
theorem dX1_part_12 : decode cX1_part 12 = .ok (.iconst 1, 1) := by decide +kernel
theorem dX1_part_13 : decode cX1_part 13 = .ok (.iand, 1) := by decide +kernel
theorem dX1_part_14 : decode cX1_part 14 = .ok (.ifCond .eq 12, 3) := by decide +kernel
theorem dX1_part_17 : decode cX1_part 17 = .ok (.iload_n 2, 1) := by decide +kernel
theorem dX1_part_18 : decode cX1_part 18 = .ok (.bipush 7, 2) := by decide +kernel
theorem dX1_part_20 : decode cX1_part 20 = .ok (.iconst 3, 1) := by decide +kernel
theorem dX1_part_21 : decode cX1_part 21 = .ok (.iload_n 3, 1) := by decide +kernel
theorem dX1_part_22 : decode cX1_part 22 = .ok (.imul, 1) := by decide +kernel
theorem dX1_part_23 : decode cX1_part 23 = .ok (.ishl, 1) := by decide +kernel
theorem dX1_part_24 : decode cX1_part 24 = .ok (.ior, 1) := by decide +kernel
theorem dX1_part_25 : decode cX1_part 25 = .ok (.istore_n 2, 1) := by decide +kernel
theorem dX1_part_26 : decode cX1_part 26 = .ok (.iinc 3 1, 3) := by decide +kernel
theorem dX1_part_29 : decode cX1_part 29 = .ok (.goto (-25), 3) := by decide +kernel
theorem dX1_part_32 : decode cX1_part 32 = .ok (.iload_n 0, 1) := by decide +kernel
theorem dX1_part_33 : decode cX1_part 33 = .ok (.iload_n 2, 1) := by decide +kernel
theorem dX1_part_34 : decode cX1_part 34 = .ok (.iand, 1) := by decide +kernel
theorem dX1_part_35 : decode cX1_part 35 = .ok (.ireturn, 1) := by decide +kernel
theorem dX1_blend_0 : decode cX1_blend 0 = .ok (.iload_n 0, 1) := by decide +kernel
theorem dX1_blend_1 : decode cX1_blend 1 = .ok (.iload_n 2, 1) := by decide +kernel
theorem dX1_blend_2 : decode cX1_blend 2 = .ok (.iconst (-1), 1) := by decide +kernel
theorem dX1_blend_3 : decode cX1_blend 3 = .ok (.ixor, 1) := by decide +kernel
theorem dX1_blend_4 : decode cX1_blend 4 = .ok (.invokestatic 15, 3) := by decide +kernel
theorem dX1_blend_7 : decode cX1_blend 7 = .ok (.iload_n 1, 1) := by decide +kernel
theorem dX1_blend_8 : decode cX1_blend 8 = .ok (.iload_n 2, 1) := by decide +kernel
theorem dX1_blend_9 : decode cX1_blend 9 = .ok (.invokestatic 15, 3) := by decide +kernel
theorem dX1_blend_12 : decode cX1_blend 12 = .ok (.ior, 1) := by decide +kernel
theorem dX1_blend_13 : decode cX1_blend 13 = .ok (.ireturn, 1) := by decide +kernel
theorem dX2_gives_0 : decode cX2_gives 0 = .ok (.aload_n 0, 1) := by decide +kernel
theorem dX2_gives_1 : decode cX2_gives 1 = .ok (.getfield 22, 3) := by decide +kernel
theorem dX2_gives_4 : decode cX2_gives 4 = .ok (.iload_n 2, 1) := by decide +kernel
theorem dX2_gives_5 : decode cX2_gives 5 = .ok (.invokevirtual 63, 3) := by decide +kernel
theorem dX2_gives_8 : decode cX2_gives 8 = .ok (.ifCond .eq 33, 3) := by decide +kernel
theorem dX2_gives_11 : decode cX2_gives 11 = .ok (.aload_n 0, 1) := by decide +kernel
theorem dX2_gives_12 : decode cX2_gives 12 = .ok (.iload_n 1, 1) := by decide +kernel
theorem dX2_gives_13 : decode cX2_gives 13 = .ok (.iload_n 2, 1) := by decide +kernel
theorem dX2_gives_14 : decode cX2_gives 14 = .ok (.iload_n 3, 1) := by decide +kernel
theorem dX2_gives_15 : decode cX2_gives 15 = .ok (.invokevirtual 67, 3) := by decide +kernel
theorem dX2_gives_18 : decode cX2_gives 18 = .ok (.ifCond .eq 23, 3) := by decide +kernel
theorem dX2_gives_21 : decode cX2_gives 21 = .ok (.aload_n 0, 1) := by decide +kernel
theorem dX2_gives_22 : decode cX2_gives 22 = .ok (.getfield 22, 3) := by decide +kernel
theorem dX2_gives_25 : decode cX2_gives 25 = .ok (.iload_n 1, 1) := by decide +kernel
theorem dX2_gives_26 : decode cX2_gives 26 = .ok (.iload_n 2, 1) := by decide +kernel
theorem dX2_gives_27 : decode cX2_gives 27 = .ok (.iload_n 3, 1) := by decide +kernel
theorem dX2_gives_28 : decode cX2_gives 28 = .ok (.invokestatic 70, 3) := by decide +kernel
theorem dX2_gives_31 : decode cX2_gives 31 = .ok (.invokevirtual 63, 3) := by decide +kernel
theorem dX2_gives_34 : decode cX2_gives 34 = .ok (.ifCond .eq 7, 3) := by decide +kernel
theorem dX2_gives_37 : decode cX2_gives 37 = .ok (.iconst 1, 1) := by decide +kernel
theorem dX2_gives_38 : decode cX2_gives 38 = .ok (.goto 4, 3) := by decide +kernel
theorem dX2_gives_41 : decode cX2_gives 41 = .ok (.iconst 0, 1) := by decide +kernel
theorem dX2_gives_42 : decode cX2_gives 42 = .ok (.ireturn, 1) := by decide +kernel
theorem dX6_apart_0 : decode cX6_apart 0 = .ok (.iload_n 2, 1) := by decide +kernel
theorem dX6_apart_1 : decode cX6_apart 1 = .ok (.iload_n 3, 1) := by decide +kernel
theorem dX6_apart_2 : decode cX6_apart 2 = .ok (.if_icmp .ne 5, 3) := by decide +kernel
theorem dX6_apart_5 : decode cX6_apart 5 = .ok (.iconst 0, 1) := by decide +kernel
theorem dX6_apart_6 : decode cX6_apart 6 = .ok (.ireturn, 1) := by decide +kernel
theorem dX6_apart_7 : decode cX6_apart 7 = .ok (.aload_n 0, 1) := by decide +kernel
theorem dX6_apart_8 : decode cX6_apart 8 = .ok (.getfield 18, 3) := by decide +kernel
theorem dX6_apart_11 : decode cX6_apart 11 = .ok (.iload_n 1, 1) := by decide +kernel
theorem dX6_apart_12 : decode cX6_apart 12 = .ok (.iaload, 1) := by decide +kernel
theorem dX6_apart_13 : decode cX6_apart 13 = .ok (.ifCond .ne 5, 3) := by decide +kernel
theorem dX6_apart_16 : decode cX6_apart 16 = .ok (.iconst 1, 1) := by decide +kernel
theorem dX6_apart_17 : decode cX6_apart 17 = .ok (.ireturn, 1) := by decide +kernel
theorem dX6_apart_18 : decode cX6_apart 18 = .ok (.iload_n 2, 1) := by decide +kernel
theorem dX6_apart_19 : decode cX6_apart 19 = .ok (.iconst (-1), 1) := by decide +kernel
theorem dX6_apart_20 : decode cX6_apart 20 = .ok (.if_icmp .eq 8, 3) := by decide +kernel
theorem dX6_apart_23 : decode cX6_apart 23 = .ok (.iload_n 3, 1) := by decide +kernel
theorem dX6_apart_24 : decode cX6_apart 24 = .ok (.iconst (-1), 1) := by decide +kernel
theorem dX6_apart_25 : decode cX6_apart 25 = .ok (.if_icmp .ne 12, 3) := by decide +kernel
theorem dX6_apart_28 : decode cX6_apart 28 = .ok (.aload_n 0, 1) := by decide +kernel
theorem dX6_apart_29 : decode cX6_apart 29 = .ok (.getfield 9, 3) := by decide +kernel
theorem dX6_apart_32 : decode cX6_apart 32 = .ok (.iload_n 1, 1) := by decide +kernel
theorem dX6_apart_33 : decode cX6_apart 33 = .ok (.iaload, 1) := by decide +kernel
theorem dX6_apart_34 : decode cX6_apart 34 = .ok (.goto 9, 3) := by decide +kernel
theorem dX6_apart_37 : decode cX6_apart 37 = .ok (.iload_n 2, 1) := by decide +kernel
theorem dX6_apart_38 : decode cX6_apart 38 = .ok (.iload_n 3, 1) := by decide +kernel
theorem dX6_apart_39 : decode cX6_apart 39 = .ok (.isub, 1) := by decide +kernel
theorem dX6_apart_40 : decode cX6_apart 40 = .ok (.invokestatic 63, 3) := by decide +kernel
theorem dX6_apart_43 : decode cX6_apart 43 = .ok (.ireturn, 1) := by decide +kernel
theorem dX6_farApart_0 : decode cX6_farApart 0 = .ok (.iconst 0, 1) := by decide +kernel
theorem dX6_farApart_1 : decode cX6_farApart 1 = .ok (.istore 4, 2) := by decide +kernel
theorem dX6_farApart_3 : decode cX6_farApart 3 = .ok (.iconst 0, 1) := by decide +kernel
theorem dX6_farApart_4 : decode cX6_farApart 4 = .ok (.istore 5, 2) := by decide +kernel
theorem dX6_farApart_6 : decode cX6_farApart 6 = .ok (.iload 5, 2) := by decide +kernel
theorem dX6_farApart_8 : decode cX6_farApart 8 = .ok (.aload_n 0, 1) := by decide +kernel
theorem dX6_farApart_9 : decode cX6_farApart 9 = .ok (.getfield 38, 3) := by decide +kernel
theorem dX6_farApart_12 : decode cX6_farApart 12 = .ok (.if_icmp .ge 49, 3) := by decide +kernel
theorem dX6_farApart_15 : decode cX6_farApart 15 = .ok (.iload_n 3, 1) := by decide +kernel
theorem dX6_farApart_16 : decode cX6_farApart 16 = .ok (.iload 5, 2) := by decide +kernel
theorem dX6_farApart_18 : decode cX6_farApart 18 = .ok (.ishr, 1) := by decide +kernel
theorem dX6_farApart_19 : decode cX6_farApart 19 = .ok (.iconst 1, 1) := by decide +kernel
theorem dX6_farApart_20 : decode cX6_farApart 20 = .ok (.iand, 1) := by decide +kernel
theorem dX6_farApart_21 : decode cX6_farApart 21 = .ok (.ifCond .ne 34, 3) := by decide +kernel
theorem dX6_farApart_24 : decode cX6_farApart 24 = .ok (.iload 4, 2) := by decide +kernel
theorem dX6_farApart_26 : decode cX6_farApart 26 = .ok (.aload_n 0, 1) := by decide +kernel
theorem dX6_farApart_27 : decode cX6_farApart 27 = .ok (.getfield 15, 3) := by decide +kernel
theorem dX6_farApart_30 : decode cX6_farApart 30 = .ok (.iload 5, 2) := by decide +kernel
theorem dX6_farApart_32 : decode cX6_farApart 32 = .ok (.iaload, 1) := by decide +kernel
theorem dX6_farApart_33 : decode cX6_farApart 33 = .ok (.aload_n 0, 1) := by decide +kernel
theorem dX6_farApart_34 : decode cX6_farApart 34 = .ok (.iload 5, 2) := by decide +kernel
theorem dX6_farApart_36 : decode cX6_farApart 36 = .ok (.iload_n 1, 1) := by decide +kernel
theorem dX6_farApart_37 : decode cX6_farApart 37 = .ok (.iload 5, 2) := by decide +kernel
theorem dX6_farApart_39 : decode cX6_farApart 39 = .ok (.invokestatic 53, 3) := by decide +kernel
theorem dX6_farApart_42 : decode cX6_farApart 42 = .ok (.iload_n 2, 1) := by decide +kernel
theorem dX6_farApart_43 : decode cX6_farApart 43 = .ok (.iload 5, 2) := by decide +kernel
theorem dX6_farApart_45 : decode cX6_farApart 45 = .ok (.invokestatic 53, 3) := by decide +kernel
theorem dX6_farApart_48 : decode cX6_farApart 48 = .ok (.invokevirtual 59, 3) := by decide +kernel
theorem dX6_farApart_51 : decode cX6_farApart 51 = .ok (.imul, 1) := by decide +kernel
theorem dX6_farApart_52 : decode cX6_farApart 52 = .ok (.iadd, 1) := by decide +kernel
theorem dX6_farApart_53 : decode cX6_farApart 53 = .ok (.istore 4, 2) := by decide +kernel
theorem dX6_farApart_55 : decode cX6_farApart 55 = .ok (.iinc 5 1, 3) := by decide +kernel
theorem dX6_farApart_58 : decode cX6_farApart 58 = .ok (.goto (-52), 3) := by decide +kernel
theorem dX6_farApart_61 : decode cX6_farApart 61 = .ok (.iload 4, 2) := by decide +kernel
theorem dX6_farApart_63 : decode cX6_farApart 63 = .ok (.ireturn, 1) := by decide +kernel
theorem dX2_insert_0 : decode cX2_insert 0 = .ok (.aload_n 0, 1) := by decide +kernel
theorem dX2_insert_1 : decode cX2_insert 1 = .ok (.getfield 30, 3) := by decide +kernel
theorem dX2_insert_4 : decode cX2_insert 4 = .ok (.istore_n 3, 1) := by decide +kernel
theorem dX2_insert_5 : decode cX2_insert 5 = .ok (.iload_n 3, 1) := by decide +kernel
theorem dX2_insert_6 : decode cX2_insert 6 = .ok (.ifCond .le 49, 3) := by decide +kernel
theorem dX2_insert_9 : decode cX2_insert 9 = .ok (.aload_n 0, 1) := by decide +kernel
theorem dX2_insert_10 : decode cX2_insert 10 = .ok (.getfield 15, 3) := by decide +kernel
theorem dX2_insert_13 : decode cX2_insert 13 = .ok (.iload_n 3, 1) := by decide +kernel
theorem dX2_insert_14 : decode cX2_insert 14 = .ok (.iconst 1, 1) := by decide +kernel
theorem dX2_insert_15 : decode cX2_insert 15 = .ok (.isub, 1) := by decide +kernel
theorem dX2_insert_16 : decode cX2_insert 16 = .ok (.iaload, 1) := by decide +kernel
theorem dX2_insert_17 : decode cX2_insert 17 = .ok (.iload_n 2, 1) := by decide +kernel
theorem dX2_insert_18 : decode cX2_insert 18 = .ok (.if_icmp .le 37, 3) := by decide +kernel
theorem dX2_insert_21 : decode cX2_insert 21 = .ok (.aload_n 0, 1) := by decide +kernel
theorem dX2_insert_22 : decode cX2_insert 22 = .ok (.getfield 15, 3) := by decide +kernel
theorem dX2_insert_25 : decode cX2_insert 25 = .ok (.iload_n 3, 1) := by decide +kernel
theorem dX2_insert_26 : decode cX2_insert 26 = .ok (.aload_n 0, 1) := by decide +kernel
theorem dX2_insert_27 : decode cX2_insert 27 = .ok (.getfield 15, 3) := by decide +kernel
theorem dX2_insert_30 : decode cX2_insert 30 = .ok (.iload_n 3, 1) := by decide +kernel
theorem dX2_insert_31 : decode cX2_insert 31 = .ok (.iconst 1, 1) := by decide +kernel
theorem dX2_insert_32 : decode cX2_insert 32 = .ok (.isub, 1) := by decide +kernel
theorem dX2_insert_33 : decode cX2_insert 33 = .ok (.iaload, 1) := by decide +kernel
theorem dX2_insert_34 : decode cX2_insert 34 = .ok (.iastore, 1) := by decide +kernel
theorem dX2_insert_35 : decode cX2_insert 35 = .ok (.aload_n 0, 1) := by decide +kernel
theorem dX2_insert_36 : decode cX2_insert 36 = .ok (.getfield 9, 3) := by decide +kernel
theorem dX2_insert_39 : decode cX2_insert 39 = .ok (.iload_n 3, 1) := by decide +kernel
theorem dX2_insert_40 : decode cX2_insert 40 = .ok (.aload_n 0, 1) := by decide +kernel
theorem dX2_insert_41 : decode cX2_insert 41 = .ok (.getfield 9, 3) := by decide +kernel
theorem dX2_insert_44 : decode cX2_insert 44 = .ok (.iload_n 3, 1) := by decide +kernel
theorem dX2_insert_45 : decode cX2_insert 45 = .ok (.iconst 1, 1) := by decide +kernel
theorem dX2_insert_46 : decode cX2_insert 46 = .ok (.isub, 1) := by decide +kernel
theorem dX2_insert_47 : decode cX2_insert 47 = .ok (.iaload, 1) := by decide +kernel
theorem dX2_insert_48 : decode cX2_insert 48 = .ok (.iastore, 1) := by decide +kernel
theorem dX2_insert_49 : decode cX2_insert 49 = .ok (.iinc 3 (-1), 3) := by decide +kernel
theorem dX2_insert_52 : decode cX2_insert 52 = .ok (.goto (-47), 3) := by decide +kernel
theorem dX2_insert_55 : decode cX2_insert 55 = .ok (.aload_n 0, 1) := by decide +kernel
theorem dX2_insert_56 : decode cX2_insert 56 = .ok (.getfield 15, 3) := by decide +kernel
theorem dX2_insert_59 : decode cX2_insert 59 = .ok (.iload_n 3, 1) := by decide +kernel
theorem dX2_insert_60 : decode cX2_insert 60 = .ok (.iload_n 2, 1) := by decide +kernel
theorem dX2_insert_61 : decode cX2_insert 61 = .ok (.iastore, 1) := by decide +kernel
theorem dX2_insert_62 : decode cX2_insert 62 = .ok (.aload_n 0, 1) := by decide +kernel
theorem dX2_insert_63 : decode cX2_insert 63 = .ok (.getfield 9, 3) := by decide +kernel
theorem dX2_insert_66 : decode cX2_insert 66 = .ok (.iload_n 3, 1) := by decide +kernel
theorem dX2_insert_67 : decode cX2_insert 67 = .ok (.iload_n 1, 1) := by decide +kernel
theorem dX2_insert_68 : decode cX2_insert 68 = .ok (.iastore, 1) := by decide +kernel
theorem dX2_insert_69 : decode cX2_insert 69 = .ok (.aload_n 0, 1) := by decide +kernel
theorem dX2_insert_70 : decode cX2_insert 70 = .ok (.dup, 1) := by decide +kernel
theorem dX2_insert_71 : decode cX2_insert 71 = .ok (.getfield 30, 3) := by decide +kernel
theorem dX2_insert_74 : decode cX2_insert 74 = .ok (.iconst 1, 1) := by decide +kernel
theorem dX2_insert_75 : decode cX2_insert 75 = .ok (.iadd, 1) := by decide +kernel
theorem dX2_insert_76 : decode cX2_insert 76 = .ok (.putfield 30, 3) := by decide +kernel
theorem dX2_insert_79 : decode cX2_insert 79 = .ok (.return_, 1) := by decide +kernel
theorem dX2_gather_0 : decode cX2_gather 0 = .ok (.aload_n 0, 1) := by decide +kernel
theorem dX2_gather_1 : decode cX2_gather 1 = .ok (.getfield 26, 3) := by decide +kernel
theorem dX2_gather_4 : decode cX2_gather 4 = .ok (.iload_n 1, 1) := by decide +kernel
theorem dX2_gather_5 : decode cX2_gather 5 = .ok (.invokevirtual 34, 3) := by decide +kernel
theorem dX2_gather_8 : decode cX2_gather 8 = .ok (.istore_n 2, 1) := by decide +kernel
theorem dX2_gather_9 : decode cX2_gather 9 = .ok (.aload_n 0, 1) := by decide +kernel
theorem dX2_gather_10 : decode cX2_gather 10 = .ok (.getfield 22, 3) := by decide +kernel
theorem dX2_gather_13 : decode cX2_gather 13 = .ok (.iload_n 2, 1) := by decide +kernel
theorem dX2_gather_14 : decode cX2_gather 14 = .ok (.invokevirtual 40, 3) := by decide +kernel
theorem dX2_gather_17 : decode cX2_gather 17 = .ok (.istore_n 3, 1) := by decide +kernel
theorem dX2_gather_18 : decode cX2_gather 18 = .ok (.aload_n 0, 1) := by decide +kernel
theorem dX2_gather_19 : decode cX2_gather 19 = .ok (.iconst 0, 1) := by decide +kernel
theorem dX2_gather_20 : decode cX2_gather 20 = .ok (.putfield 30, 3) := by decide +kernel
theorem dX2_gather_23 : decode cX2_gather 23 = .ok (.iconst 0, 1) := by decide +kernel
theorem dX2_gather_24 : decode cX2_gather 24 = .ok (.istore 4, 2) := by decide +kernel
theorem dX2_gather_26 : decode cX2_gather 26 = .ok (.iload 4, 2) := by decide +kernel
theorem dX2_gather_28 : decode cX2_gather 28 = .ok (.aload_n 0, 1) := by decide +kernel
theorem dX2_gather_29 : decode cX2_gather 29 = .ok (.getfield 26, 3) := by decide +kernel
theorem dX2_gather_32 : decode cX2_gather 32 = .ok (.getfield 45, 3) := by decide +kernel
theorem dX2_gather_35 : decode cX2_gather 35 = .ok (.if_icmp .ge 64, 3) := by decide +kernel
theorem dX2_gather_38 : decode cX2_gather 38 = .ok (.iload_n 3, 1) := by decide +kernel
theorem dX2_gather_39 : decode cX2_gather 39 = .ok (.iconst (-1), 1) := by decide +kernel
theorem dX2_gather_40 : decode cX2_gather 40 = .ok (.if_icmp .eq 59, 3) := by decide +kernel
theorem dX2_gather_43 : decode cX2_gather 43 = .ok (.iload 4, 2) := by decide +kernel
theorem dX2_gather_45 : decode cX2_gather 45 = .ok (.iload_n 1, 1) := by decide +kernel
theorem dX2_gather_46 : decode cX2_gather 46 = .ok (.if_icmp .eq 47, 3) := by decide +kernel
theorem dX2_gather_49 : decode cX2_gather 49 = .ok (.aload_n 0, 1) := by decide +kernel
theorem dX2_gather_50 : decode cX2_gather 50 = .ok (.iload_n 2, 1) := by decide +kernel
theorem dX2_gather_51 : decode cX2_gather 51 = .ok (.aload_n 0, 1) := by decide +kernel
theorem dX2_gather_52 : decode cX2_gather 52 = .ok (.getfield 26, 3) := by decide +kernel
theorem dX2_gather_55 : decode cX2_gather 55 = .ok (.getfield 46, 3) := by decide +kernel
theorem dX2_gather_58 : decode cX2_gather 58 = .ok (.iload 4, 2) := by decide +kernel
theorem dX2_gather_60 : decode cX2_gather 60 = .ok (.iaload, 1) := by decide +kernel
theorem dX2_gather_61 : decode cX2_gather 61 = .ok (.iload_n 3, 1) := by decide +kernel
theorem dX2_gather_62 : decode cX2_gather 62 = .ok (.invokevirtual 49, 3) := by decide +kernel
theorem dX2_gather_65 : decode cX2_gather 65 = .ok (.ifCond .eq 28, 3) := by decide +kernel
theorem dX2_gather_68 : decode cX2_gather 68 = .ok (.aload_n 0, 1) := by decide +kernel
theorem dX2_gather_69 : decode cX2_gather 69 = .ok (.iload 4, 2) := by decide +kernel
theorem dX2_gather_71 : decode cX2_gather 71 = .ok (.aload_n 0, 1) := by decide +kernel
theorem dX2_gather_72 : decode cX2_gather 72 = .ok (.getfield 18, 3) := by decide +kernel
theorem dX2_gather_75 : decode cX2_gather 75 = .ok (.iload_n 2, 1) := by decide +kernel
theorem dX2_gather_76 : decode cX2_gather 76 = .ok (.aload_n 0, 1) := by decide +kernel
theorem dX2_gather_77 : decode cX2_gather 77 = .ok (.getfield 26, 3) := by decide +kernel
theorem dX2_gather_80 : decode cX2_gather 80 = .ok (.getfield 46, 3) := by decide +kernel
theorem dX2_gather_83 : decode cX2_gather 83 = .ok (.iload 4, 2) := by decide +kernel
theorem dX2_gather_85 : decode cX2_gather 85 = .ok (.iaload, 1) := by decide +kernel
theorem dX2_gather_86 : decode cX2_gather 86 = .ok (.iload_n 3, 1) := by decide +kernel
theorem dX2_gather_87 : decode cX2_gather 87 = .ok (.invokevirtual 53, 3) := by decide +kernel
theorem dX2_gather_90 : decode cX2_gather 90 = .ok (.invokevirtual 59, 3) := by decide +kernel
theorem dX2_gather_93 : decode cX2_gather 93 = .ok (.iinc 4 1, 3) := by decide +kernel
theorem dX2_gather_96 : decode cX2_gather 96 = .ok (.goto (-70), 3) := by decide +kernel
theorem dX2_gather_99 : decode cX2_gather 99 = .ok (.return_, 1) := by decide +kernel
theorem dX2_countSame_0 : decode cX2_countSame 0 = .ok (.iconst 0, 1) := by decide +kernel
theorem dX2_countSame_1 : decode cX2_countSame 1 = .ok (.istore_n 3, 1) := by decide +kernel
theorem dX2_countSame_2 : decode cX2_countSame 2 = .ok (.iconst 0, 1) := by decide +kernel
theorem dX2_countSame_3 : decode cX2_countSame 3 = .ok (.istore 4, 2) := by decide +kernel
theorem dX2_countSame_5 : decode cX2_countSame 5 = .ok (.iload 4, 2) := by decide +kernel
theorem dX2_countSame_7 : decode cX2_countSame 7 = .ok (.aload_n 0, 1) := by decide +kernel
theorem dX2_countSame_8 : decode cX2_countSame 8 = .ok (.getfield 30, 3) := by decide +kernel
theorem dX2_countSame_11 : decode cX2_countSame 11 = .ok (.if_icmp .ge 34, 3) := by decide +kernel
theorem dX2_countSame_14 : decode cX2_countSame 14 = .ok (.aload_n 0, 1) := by decide +kernel
theorem dX2_countSame_15 : decode cX2_countSame 15 = .ok (.getfield 26, 3) := by decide +kernel
theorem dX2_countSame_18 : decode cX2_countSame 18 = .ok (.aload_n 0, 1) := by decide +kernel
theorem dX2_countSame_19 : decode cX2_countSame 19 = .ok (.getfield 9, 3) := by decide +kernel
theorem dX2_countSame_22 : decode cX2_countSame 22 = .ok (.iload 4, 2) := by decide +kernel
theorem dX2_countSame_24 : decode cX2_countSame 24 = .ok (.iaload, 1) := by decide +kernel
theorem dX2_countSame_25 : decode cX2_countSame 25 = .ok (.invokevirtual 34, 3) := by decide +kernel
theorem dX2_countSame_28 : decode cX2_countSame 28 = .ok (.iload_n 2, 1) := by decide +kernel
theorem dX2_countSame_29 : decode cX2_countSame 29 = .ok (.invokestatic 92, 3) := by decide +kernel
theorem dX2_countSame_32 : decode cX2_countSame 32 = .ok (.iload_n 1, 1) := by decide +kernel
theorem dX2_countSame_33 : decode cX2_countSame 33 = .ok (.if_icmp .ne 6, 3) := by decide +kernel
theorem dX2_countSame_36 : decode cX2_countSame 36 = .ok (.iinc 3 1, 3) := by decide +kernel
theorem dX2_countSame_39 : decode cX2_countSame 39 = .ok (.iinc 4 1, 3) := by decide +kernel
theorem dX2_countSame_42 : decode cX2_countSame 42 = .ok (.goto (-37), 3) := by decide +kernel
theorem dX2_countSame_45 : decode cX2_countSame 45 = .ok (.iload_n 3, 1) := by decide +kernel
theorem dX2_countSame_46 : decode cX2_countSame 46 = .ok (.ireturn, 1) := by decide +kernel
theorem dX2_commonest_0 : decode cX2_commonest 0 = .ok (.aload_n 0, 1) := by decide +kernel
theorem dX2_commonest_1 : decode cX2_commonest 1 = .ok (.getfield 9, 3) := by decide +kernel
theorem dX2_commonest_4 : decode cX2_commonest 4 = .ok (.iconst 0, 1) := by decide +kernel
theorem dX2_commonest_5 : decode cX2_commonest 5 = .ok (.iaload, 1) := by decide +kernel
theorem dX2_commonest_6 : decode cX2_commonest 6 = .ok (.istore_n 2, 1) := by decide +kernel
theorem dX2_commonest_7 : decode cX2_commonest 7 = .ok (.iconst 0, 1) := by decide +kernel
theorem dX2_commonest_8 : decode cX2_commonest 8 = .ok (.istore_n 3, 1) := by decide +kernel
theorem dX2_commonest_9 : decode cX2_commonest 9 = .ok (.iconst 0, 1) := by decide +kernel
theorem dX2_commonest_10 : decode cX2_commonest 10 = .ok (.istore 4, 2) := by decide +kernel
theorem dX2_commonest_12 : decode cX2_commonest 12 = .ok (.iload 4, 2) := by decide +kernel
theorem dX2_commonest_14 : decode cX2_commonest 14 = .ok (.aload_n 0, 1) := by decide +kernel
theorem dX2_commonest_15 : decode cX2_commonest 15 = .ok (.getfield 30, 3) := by decide +kernel
theorem dX2_commonest_18 : decode cX2_commonest 18 = .ok (.if_icmp .ge 51, 3) := by decide +kernel
theorem dX2_commonest_21 : decode cX2_commonest 21 = .ok (.aload_n 0, 1) := by decide +kernel
theorem dX2_commonest_22 : decode cX2_commonest 22 = .ok (.aload_n 0, 1) := by decide +kernel
theorem dX2_commonest_23 : decode cX2_commonest 23 = .ok (.getfield 26, 3) := by decide +kernel
theorem dX2_commonest_26 : decode cX2_commonest 26 = .ok (.aload_n 0, 1) := by decide +kernel
theorem dX2_commonest_27 : decode cX2_commonest 27 = .ok (.getfield 9, 3) := by decide +kernel
theorem dX2_commonest_30 : decode cX2_commonest 30 = .ok (.iload 4, 2) := by decide +kernel
theorem dX2_commonest_32 : decode cX2_commonest 32 = .ok (.iaload, 1) := by decide +kernel
theorem dX2_commonest_33 : decode cX2_commonest 33 = .ok (.invokevirtual 34, 3) := by decide +kernel
theorem dX2_commonest_36 : decode cX2_commonest 36 = .ok (.iload_n 1, 1) := by decide +kernel
theorem dX2_commonest_37 : decode cX2_commonest 37 = .ok (.invokestatic 92, 3) := by decide +kernel
theorem dX2_commonest_40 : decode cX2_commonest 40 = .ok (.iload_n 1, 1) := by decide +kernel
theorem dX2_commonest_41 : decode cX2_commonest 41 = .ok (.invokevirtual 95, 3) := by decide +kernel
theorem dX2_commonest_44 : decode cX2_commonest 44 = .ok (.istore 5, 2) := by decide +kernel
theorem dX2_commonest_46 : decode cX2_commonest 46 = .ok (.iload 5, 2) := by decide +kernel
theorem dX2_commonest_48 : decode cX2_commonest 48 = .ok (.iload_n 3, 1) := by decide +kernel
theorem dX2_commonest_49 : decode cX2_commonest 49 = .ok (.if_icmp .le 14, 3) := by decide +kernel
theorem dX2_commonest_52 : decode cX2_commonest 52 = .ok (.iload 5, 2) := by decide +kernel
theorem dX2_commonest_54 : decode cX2_commonest 54 = .ok (.istore_n 3, 1) := by decide +kernel
theorem dX2_commonest_55 : decode cX2_commonest 55 = .ok (.aload_n 0, 1) := by decide +kernel
theorem dX2_commonest_56 : decode cX2_commonest 56 = .ok (.getfield 9, 3) := by decide +kernel
theorem dX2_commonest_59 : decode cX2_commonest 59 = .ok (.iload 4, 2) := by decide +kernel
theorem dX2_commonest_61 : decode cX2_commonest 61 = .ok (.iaload, 1) := by decide +kernel
theorem dX2_commonest_62 : decode cX2_commonest 62 = .ok (.istore_n 2, 1) := by decide +kernel
theorem dX2_commonest_63 : decode cX2_commonest 63 = .ok (.iinc 4 1, 3) := by decide +kernel
theorem dX2_commonest_66 : decode cX2_commonest 66 = .ok (.goto (-54), 3) := by decide +kernel
theorem dX2_commonest_69 : decode cX2_commonest 69 = .ok (.iload_n 2, 1) := by decide +kernel
theorem dX2_commonest_70 : decode cX2_commonest 70 = .ok (.ireturn, 1) := by decide +kernel
theorem dX5_lowestOf_0 : decode cX5_lowestOf 0 = .ok (.iconst 0, 1) := by decide +kernel
theorem dX5_lowestOf_1 : decode cX5_lowestOf 1 = .ok (.istore_n 1, 1) := by decide +kernel
theorem dX5_lowestOf_2 : decode cX5_lowestOf 2 = .ok (.iload_n 1, 1) := by decide +kernel
theorem dX5_lowestOf_3 : decode cX5_lowestOf 3 = .ok (.iconst 5, 1) := by decide +kernel
theorem dX5_lowestOf_4 : decode cX5_lowestOf 4 = .ok (.if_icmp .ge 19, 3) := by decide +kernel
theorem dX5_lowestOf_7 : decode cX5_lowestOf 7 = .ok (.iload_n 0, 1) := by decide +kernel
theorem dX5_lowestOf_8 : decode cX5_lowestOf 8 = .ok (.iload_n 1, 1) := by decide +kernel
theorem dX5_lowestOf_9 : decode cX5_lowestOf 9 = .ok (.ishr, 1) := by decide +kernel
theorem dX5_lowestOf_10 : decode cX5_lowestOf 10 = .ok (.iconst 1, 1) := by decide +kernel
theorem dX5_lowestOf_11 : decode cX5_lowestOf 11 = .ok (.iand, 1) := by decide +kernel
theorem dX5_lowestOf_12 : decode cX5_lowestOf 12 = .ok (.ifCond .eq 5, 3) := by decide +kernel
theorem dX5_lowestOf_15 : decode cX5_lowestOf 15 = .ok (.iload_n 1, 1) := by decide +kernel
theorem dX5_lowestOf_16 : decode cX5_lowestOf 16 = .ok (.ireturn, 1) := by decide +kernel
theorem dX5_lowestOf_17 : decode cX5_lowestOf 17 = .ok (.iinc 1 1, 3) := by decide +kernel
theorem dX5_lowestOf_20 : decode cX5_lowestOf 20 = .ok (.goto (-18), 3) := by decide +kernel
theorem dX5_lowestOf_23 : decode cX5_lowestOf 23 = .ok (.iconst (-1), 1) := by decide +kernel
theorem dX5_lowestOf_24 : decode cX5_lowestOf 24 = .ok (.ireturn, 1) := by decide +kernel
theorem dX5_firstWay_0 : decode cX5_firstWay 0 = .ok (.iload_n 1, 1) := by decide +kernel
theorem dX5_firstWay_1 : decode cX5_firstWay 1 = .ok (.istore_n 3, 1) := by decide +kernel
theorem dX5_firstWay_2 : decode cX5_firstWay 2 = .ok (.aload_n 0, 1) := by decide +kernel
theorem dX5_firstWay_3 : decode cX5_firstWay 3 = .ok (.iload_n 1, 1) := by decide +kernel
theorem dX5_firstWay_4 : decode cX5_firstWay 4 = .ok (.iload_n 2, 1) := by decide +kernel
theorem dX5_firstWay_5 : decode cX5_firstWay 5 = .ok (.invokevirtual 96, 3) := by decide +kernel
theorem dX5_firstWay_8 : decode cX5_firstWay 8 = .ok (.istore 4, 2) := by decide +kernel
theorem dX5_firstWay_10 : decode cX5_firstWay 10 = .ok (.iload_n 2, 1) := by decide +kernel
theorem dX5_firstWay_11 : decode cX5_firstWay 11 = .ok (.istore 5, 2) := by decide +kernel
theorem dX5_firstWay_13 : decode cX5_firstWay 13 = .ok (.iconst 0, 1) := by decide +kernel
theorem dX5_firstWay_14 : decode cX5_firstWay 14 = .ok (.istore 6, 2) := by decide +kernel
theorem dX5_firstWay_16 : decode cX5_firstWay 16 = .ok (.iload 6, 2) := by decide +kernel
theorem dX5_firstWay_18 : decode cX5_firstWay 18 = .ok (.aload_n 0, 1) := by decide +kernel
theorem dX5_firstWay_19 : decode cX5_firstWay 19 = .ok (.getfield 28, 3) := by decide +kernel
theorem dX5_firstWay_22 : decode cX5_firstWay 22 = .ok (.getfield 32, 3) := by decide +kernel
theorem dX5_firstWay_25 : decode cX5_firstWay 25 = .ok (.if_icmp .ge 75, 3) := by decide +kernel
theorem dX5_firstWay_28 : decode cX5_firstWay 28 = .ok (.iload 5, 2) := by decide +kernel
theorem dX5_firstWay_30 : decode cX5_firstWay 30 = .ok (.iload 6, 2) := by decide +kernel
theorem dX5_firstWay_32 : decode cX5_firstWay 32 = .ok (.ishr, 1) := by decide +kernel
theorem dX5_firstWay_33 : decode cX5_firstWay 33 = .ok (.iconst 1, 1) := by decide +kernel
theorem dX5_firstWay_34 : decode cX5_firstWay 34 = .ok (.iand, 1) := by decide +kernel
theorem dX5_firstWay_35 : decode cX5_firstWay 35 = .ok (.ifCond .eq 59, 3) := by decide +kernel
theorem dX5_firstWay_38 : decode cX5_firstWay 38 = .ok (.aload_n 0, 1) := by decide +kernel
theorem dX5_firstWay_39 : decode cX5_firstWay 39 = .ok (.iload 4, 2) := by decide +kernel
theorem dX5_firstWay_41 : decode cX5_firstWay 41 = .ok (.iload 5, 2) := by decide +kernel
theorem dX5_firstWay_43 : decode cX5_firstWay 43 = .ok (.iload 6, 2) := by decide +kernel
theorem dX5_firstWay_45 : decode cX5_firstWay 45 = .ok (.invokevirtual 124, 3) := by decide +kernel
theorem dX5_firstWay_48 : decode cX5_firstWay 48 = .ok (.invokestatic 137, 3) := by decide +kernel
theorem dX5_firstWay_51 : decode cX5_firstWay 51 = .ok (.istore 7, 2) := by decide +kernel
theorem dX5_firstWay_53 : decode cX5_firstWay 53 = .ok (.iload 7, 2) := by decide +kernel
theorem dX5_firstWay_55 : decode cX5_firstWay 55 = .ok (.iconst (-1), 1) := by decide +kernel
theorem dX5_firstWay_56 : decode cX5_firstWay 56 = .ok (.if_icmp .ne 5, 3) := by decide +kernel
theorem dX5_firstWay_59 : decode cX5_firstWay 59 = .ok (.iconst (-1), 1) := by decide +kernel
theorem dX5_firstWay_60 : decode cX5_firstWay 60 = .ok (.ireturn, 1) := by decide +kernel
theorem dX5_firstWay_61 : decode cX5_firstWay 61 = .ok (.iload_n 3, 1) := by decide +kernel
theorem dX5_firstWay_62 : decode cX5_firstWay 62 = .ok (.iload 6, 2) := by decide +kernel
theorem dX5_firstWay_64 : decode cX5_firstWay 64 = .ok (.iload 7, 2) := by decide +kernel
theorem dX5_firstWay_66 : decode cX5_firstWay 66 = .ok (.invokestatic 140, 3) := by decide +kernel
theorem dX5_firstWay_69 : decode cX5_firstWay 69 = .ok (.istore_n 3, 1) := by decide +kernel
theorem dX5_firstWay_70 : decode cX5_firstWay 70 = .ok (.iload 4, 2) := by decide +kernel
theorem dX5_firstWay_72 : decode cX5_firstWay 72 = .ok (.aload_n 0, 1) := by decide +kernel
theorem dX5_firstWay_73 : decode cX5_firstWay 73 = .ok (.iload 6, 2) := by decide +kernel
theorem dX5_firstWay_75 : decode cX5_firstWay 75 = .ok (.iload 7, 2) := by decide +kernel
theorem dX5_firstWay_77 : decode cX5_firstWay 77 = .ok (.invokevirtual 89, 3) := by decide +kernel
theorem dX5_firstWay_80 : decode cX5_firstWay 80 = .ok (.iand, 1) := by decide +kernel
theorem dX5_firstWay_81 : decode cX5_firstWay 81 = .ok (.istore 4, 2) := by decide +kernel
theorem dX5_firstWay_83 : decode cX5_firstWay 83 = .ok (.iload 5, 2) := by decide +kernel
theorem dX5_firstWay_85 : decode cX5_firstWay 85 = .ok (.iconst 1, 1) := by decide +kernel
theorem dX5_firstWay_86 : decode cX5_firstWay 86 = .ok (.iload 6, 2) := by decide +kernel
theorem dX5_firstWay_88 : decode cX5_firstWay 88 = .ok (.ishl, 1) := by decide +kernel
theorem dX5_firstWay_89 : decode cX5_firstWay 89 = .ok (.iconst (-1), 1) := by decide +kernel
theorem dX5_firstWay_90 : decode cX5_firstWay 90 = .ok (.ixor, 1) := by decide +kernel
theorem dX5_firstWay_91 : decode cX5_firstWay 91 = .ok (.iand, 1) := by decide +kernel
theorem dX5_firstWay_92 : decode cX5_firstWay 92 = .ok (.istore 5, 2) := by decide +kernel
theorem dX5_firstWay_94 : decode cX5_firstWay 94 = .ok (.iinc 6 1, 3) := by decide +kernel
theorem dX5_firstWay_97 : decode cX5_firstWay 97 = .ok (.goto (-81), 3) := by decide +kernel
theorem dX5_firstWay_100 : decode cX5_firstWay 100 = .ok (.iload_n 3, 1) := by decide +kernel
theorem dX5_firstWay_101 : decode cX5_firstWay 101 = .ok (.ireturn, 1) := by decide +kernel
theorem dX2_mended_0 : decode cX2_mended 0 = .ok (.aload_n 0, 1) := by decide +kernel
theorem dX2_mended_1 : decode cX2_mended 1 = .ok (.getfield 26, 3) := by decide +kernel
theorem dX2_mended_4 : decode cX2_mended 4 = .ok (.iload_n 1, 1) := by decide +kernel
theorem dX2_mended_5 : decode cX2_mended 5 = .ok (.invokevirtual 34, 3) := by decide +kernel
theorem dX2_mended_8 : decode cX2_mended 8 = .ok (.istore_n 3, 1) := by decide +kernel
theorem dX2_mended_9 : decode cX2_mended 9 = .ok (.aload_n 0, 1) := by decide +kernel
theorem dX2_mended_10 : decode cX2_mended 10 = .ok (.getfield 22, 3) := by decide +kernel
theorem dX2_mended_13 : decode cX2_mended 13 = .ok (.iload_n 3, 1) := by decide +kernel
theorem dX2_mended_14 : decode cX2_mended 14 = .ok (.invokevirtual 63, 3) := by decide +kernel
theorem dX2_mended_17 : decode cX2_mended 17 = .ok (.ifCond .eq 5, 3) := by decide +kernel
theorem dX2_mended_20 : decode cX2_mended 20 = .ok (.iload_n 3, 1) := by decide +kernel
theorem dX2_mended_21 : decode cX2_mended 21 = .ok (.ireturn, 1) := by decide +kernel
theorem dX2_mended_22 : decode cX2_mended 22 = .ok (.aload_n 0, 1) := by decide +kernel
theorem dX2_mended_23 : decode cX2_mended 23 = .ok (.getfield 22, 3) := by decide +kernel
theorem dX2_mended_26 : decode cX2_mended 26 = .ok (.iload_n 3, 1) := by decide +kernel
theorem dX2_mended_27 : decode cX2_mended 27 = .ok (.invokevirtual 40, 3) := by decide +kernel
theorem dX2_mended_30 : decode cX2_mended 30 = .ok (.istore 4, 2) := by decide +kernel
theorem dX2_mended_32 : decode cX2_mended 32 = .ok (.iload 4, 2) := by decide +kernel
theorem dX2_mended_34 : decode cX2_mended 34 = .ok (.iconst (-1), 1) := by decide +kernel
theorem dX2_mended_35 : decode cX2_mended 35 = .ok (.if_icmp .ne 5, 3) := by decide +kernel
theorem dX2_mended_38 : decode cX2_mended 38 = .ok (.iconst (-1), 1) := by decide +kernel
theorem dX2_mended_39 : decode cX2_mended 39 = .ok (.ireturn, 1) := by decide +kernel
theorem dX2_mended_40 : decode cX2_mended 40 = .ok (.iload_n 2, 1) := by decide +kernel
theorem dX2_mended_41 : decode cX2_mended 41 = .ok (.iconst 2, 1) := by decide +kernel
theorem dX2_mended_42 : decode cX2_mended 42 = .ok (.if_icmp .ne 14, 3) := by decide +kernel
theorem dX2_mended_45 : decode cX2_mended 45 = .ok (.aload_n 0, 1) := by decide +kernel
theorem dX2_mended_46 : decode cX2_mended 46 = .ok (.getfield 22, 3) := by decide +kernel
theorem dX2_mended_49 : decode cX2_mended 49 = .ok (.iload_n 3, 1) := by decide +kernel
theorem dX2_mended_50 : decode cX2_mended 50 = .ok (.iload 4, 2) := by decide +kernel
theorem dX2_mended_52 : decode cX2_mended 52 = .ok (.invokevirtual 82, 3) := by decide +kernel
theorem dX2_mended_55 : decode cX2_mended 55 = .ok (.ireturn, 1) := by decide +kernel
theorem dX2_mended_56 : decode cX2_mended 56 = .ok (.aload_n 0, 1) := by decide +kernel
theorem dX2_mended_57 : decode cX2_mended 57 = .ok (.iload_n 1, 1) := by decide +kernel
theorem dX2_mended_58 : decode cX2_mended 58 = .ok (.invokevirtual 85, 3) := by decide +kernel
theorem dX2_mended_61 : decode cX2_mended 61 = .ok (.aload_n 0, 1) := by decide +kernel
theorem dX2_mended_62 : decode cX2_mended 62 = .ok (.getfield 30, 3) := by decide +kernel
theorem dX2_mended_65 : decode cX2_mended 65 = .ok (.ifCond .ne 5, 3) := by decide +kernel
theorem dX2_mended_68 : decode cX2_mended 68 = .ok (.iconst (-1), 1) := by decide +kernel
theorem dX2_mended_69 : decode cX2_mended 69 = .ok (.ireturn, 1) := by decide +kernel
theorem dX2_mended_70 : decode cX2_mended 70 = .ok (.iload_n 2, 1) := by decide +kernel
theorem dX2_mended_71 : decode cX2_mended 71 = .ok (.iconst 1, 1) := by decide +kernel
theorem dX2_mended_72 : decode cX2_mended 72 = .ok (.if_icmp .ne 12, 3) := by decide +kernel
theorem dX2_mended_75 : decode cX2_mended 75 = .ok (.aload_n 0, 1) := by decide +kernel
theorem dX2_mended_76 : decode cX2_mended 76 = .ok (.iload 4, 2) := by decide +kernel
theorem dX2_mended_78 : decode cX2_mended 78 = .ok (.invokevirtual 89, 3) := by decide +kernel
theorem dX2_mended_81 : decode cX2_mended 81 = .ok (.goto 9, 3) := by decide +kernel
theorem dX2_mended_84 : decode cX2_mended 84 = .ok (.aload_n 0, 1) := by decide +kernel
theorem dX2_mended_85 : decode cX2_mended 85 = .ok (.getfield 9, 3) := by decide +kernel
theorem dX2_mended_88 : decode cX2_mended 88 = .ok (.iconst 0, 1) := by decide +kernel
theorem dX2_mended_89 : decode cX2_mended 89 = .ok (.iaload, 1) := by decide +kernel
theorem dX2_mended_90 : decode cX2_mended 90 = .ok (.istore 5, 2) := by decide +kernel
theorem dX2_mended_92 : decode cX2_mended 92 = .ok (.iload_n 3, 1) := by decide +kernel
theorem dX2_mended_93 : decode cX2_mended 93 = .ok (.aload_n 0, 1) := by decide +kernel
theorem dX2_mended_94 : decode cX2_mended 94 = .ok (.getfield 26, 3) := by decide +kernel
theorem dX2_mended_97 : decode cX2_mended 97 = .ok (.iload 5, 2) := by decide +kernel
theorem dX2_mended_99 : decode cX2_mended 99 = .ok (.invokevirtual 34, 3) := by decide +kernel
theorem dX2_mended_102 : decode cX2_mended 102 = .ok (.iload 4, 2) := by decide +kernel
theorem dX2_mended_104 : decode cX2_mended 104 = .ok (.invokestatic 70, 3) := by decide +kernel
theorem dX2_mended_107 : decode cX2_mended 107 = .ok (.ireturn, 1) := by decide +kernel
theorem dX1_toDigits_0 : decode cX1_toDigits 0 = .ok (.iconst 0, 1) := by decide +kernel
theorem dX1_toDigits_1 : decode cX1_toDigits 1 = .ok (.istore_n 2, 1) := by decide +kernel
theorem dX1_toDigits_2 : decode cX1_toDigits 2 = .ok (.iconst 0, 1) := by decide +kernel
theorem dX1_toDigits_3 : decode cX1_toDigits 3 = .ok (.istore_n 3, 1) := by decide +kernel
theorem dX1_toDigits_4 : decode cX1_toDigits 4 = .ok (.iload_n 3, 1) := by decide +kernel
theorem dX1_toDigits_5 : decode cX1_toDigits 5 = .ok (.iload_n 1, 1) := by decide +kernel
theorem dX1_toDigits_6 : decode cX1_toDigits 6 = .ok (.if_icmp .ge 20, 3) := by decide +kernel
theorem dX1_toDigits_9 : decode cX1_toDigits 9 = .ok (.iload_n 2, 1) := by decide +kernel
theorem dX1_toDigits_10 : decode cX1_toDigits 10 = .ok (.bipush 10, 2) := by decide +kernel
theorem dX1_toDigits_12 : decode cX1_toDigits 12 = .ok (.imul, 1) := by decide +kernel
theorem dX1_toDigits_13 : decode cX1_toDigits 13 = .ok (.iload_n 0, 1) := by decide +kernel
theorem dX1_toDigits_14 : decode cX1_toDigits 14 = .ok (.iload_n 3, 1) := by decide +kernel
theorem dX1_toDigits_15 : decode cX1_toDigits 15 = .ok (.invokestatic 11, 3) := by decide +kernel
theorem dX1_toDigits_18 : decode cX1_toDigits 18 = .ok (.iadd, 1) := by decide +kernel
theorem dX1_toDigits_19 : decode cX1_toDigits 19 = .ok (.istore_n 2, 1) := by decide +kernel
theorem dX1_toDigits_20 : decode cX1_toDigits 20 = .ok (.iinc 3 1, 3) := by decide +kernel
theorem dX1_toDigits_23 : decode cX1_toDigits 23 = .ok (.goto (-19), 3) := by decide +kernel
theorem dX1_toDigits_26 : decode cX1_toDigits 26 = .ok (.iload_n 2, 1) := by decide +kernel
theorem dX1_toDigits_27 : decode cX1_toDigits 27 = .ok (.ireturn, 1) := by decide +kernel
theorem dX4_countRight_0 : decode cX4_countRight 0 = .ok (.iconst 0, 1) := by decide +kernel
theorem dX4_countRight_1 : decode cX4_countRight 1 = .ok (.istore_n 1, 1) := by decide +kernel
theorem dX4_countRight_2 : decode cX4_countRight 2 = .ok (.iconst 0, 1) := by decide +kernel
theorem dX4_countRight_3 : decode cX4_countRight 3 = .ok (.istore_n 2, 1) := by decide +kernel
theorem dX4_countRight_4 : decode cX4_countRight 4 = .ok (.iload_n 2, 1) := by decide +kernel
theorem dX4_countRight_5 : decode cX4_countRight 5 = .ok (.aload_n 0, 1) := by decide +kernel
theorem dX4_countRight_6 : decode cX4_countRight 6 = .ok (.getfield 26, 3) := by decide +kernel
theorem dX4_countRight_9 : decode cX4_countRight 9 = .ok (.getfield 30, 3) := by decide +kernel
theorem dX4_countRight_12 : decode cX4_countRight 12 = .ok (.if_icmp .ge 31, 3) := by decide +kernel
theorem dX4_countRight_15 : decode cX4_countRight 15 = .ok (.aload_n 0, 1) := by decide +kernel
theorem dX4_countRight_16 : decode cX4_countRight 16 = .ok (.getfield 22, 3) := by decide +kernel
theorem dX4_countRight_19 : decode cX4_countRight 19 = .ok (.aload_n 0, 1) := by decide +kernel
theorem dX4_countRight_20 : decode cX4_countRight 20 = .ok (.getfield 26, 3) := by decide +kernel
theorem dX4_countRight_23 : decode cX4_countRight 23 = .ok (.getfield 36, 3) := by decide +kernel
theorem dX4_countRight_26 : decode cX4_countRight 26 = .ok (.iload_n 2, 1) := by decide +kernel
theorem dX4_countRight_27 : decode cX4_countRight 27 = .ok (.iaload, 1) := by decide +kernel
theorem dX4_countRight_28 : decode cX4_countRight 28 = .ok (.invokevirtual 39, 3) := by decide +kernel
theorem dX4_countRight_31 : decode cX4_countRight 31 = .ok (.ifCond .eq 6, 3) := by decide +kernel
theorem dX4_countRight_34 : decode cX4_countRight 34 = .ok (.iinc 1 1, 3) := by decide +kernel
theorem dX4_countRight_37 : decode cX4_countRight 37 = .ok (.iinc 2 1, 3) := by decide +kernel
theorem dX4_countRight_40 : decode cX4_countRight 40 = .ok (.goto (-36), 3) := by decide +kernel
theorem dX4_countRight_43 : decode cX4_countRight 43 = .ok (.iload_n 1, 1) := by decide +kernel
theorem dX4_countRight_44 : decode cX4_countRight 44 = .ok (.ireturn, 1) := by decide +kernel
theorem dX4_countMissing_0 : decode cX4_countMissing 0 = .ok (.iconst 0, 1) := by decide +kernel
theorem dX4_countMissing_1 : decode cX4_countMissing 1 = .ok (.istore_n 1, 1) := by decide +kernel
theorem dX4_countMissing_2 : decode cX4_countMissing 2 = .ok (.iconst 0, 1) := by decide +kernel
theorem dX4_countMissing_3 : decode cX4_countMissing 3 = .ok (.istore_n 2, 1) := by decide +kernel
theorem dX4_countMissing_4 : decode cX4_countMissing 4 = .ok (.iload_n 2, 1) := by decide +kernel
theorem dX4_countMissing_5 : decode cX4_countMissing 5 = .ok (.aload_n 0, 1) := by decide +kernel
theorem dX4_countMissing_6 : decode cX4_countMissing 6 = .ok (.getfield 26, 3) := by decide +kernel
theorem dX4_countMissing_9 : decode cX4_countMissing 9 = .ok (.getfield 30, 3) := by decide +kernel
theorem dX4_countMissing_12 : decode cX4_countMissing 12 = .ok (.if_icmp .ge 34, 3) := by decide +kernel
theorem dX4_countMissing_15 : decode cX4_countMissing 15 = .ok (.iload_n 1, 1) := by decide +kernel
theorem dX4_countMissing_16 : decode cX4_countMissing 16 = .ok (.aload_n 0, 1) := by decide +kernel
theorem dX4_countMissing_17 : decode cX4_countMissing 17 = .ok (.getfield 26, 3) := by decide +kernel
theorem dX4_countMissing_20 : decode cX4_countMissing 20 = .ok (.getfield 36, 3) := by decide +kernel
theorem dX4_countMissing_23 : decode cX4_countMissing 23 = .ok (.iload_n 2, 1) := by decide +kernel
theorem dX4_countMissing_24 : decode cX4_countMissing 24 = .ok (.iaload, 1) := by decide +kernel
theorem dX4_countMissing_25 : decode cX4_countMissing 25 = .ok (.aload_n 0, 1) := by decide +kernel
theorem dX4_countMissing_26 : decode cX4_countMissing 26 = .ok (.getfield 18, 3) := by decide +kernel
theorem dX4_countMissing_29 : decode cX4_countMissing 29 = .ok (.getfield 45, 3) := by decide +kernel
theorem dX4_countMissing_32 : decode cX4_countMissing 32 = .ok (.invokestatic 50, 3) := by decide +kernel
theorem dX4_countMissing_35 : decode cX4_countMissing 35 = .ok (.invokestatic 56, 3) := by decide +kernel
theorem dX4_countMissing_38 : decode cX4_countMissing 38 = .ok (.iadd, 1) := by decide +kernel
theorem dX4_countMissing_39 : decode cX4_countMissing 39 = .ok (.istore_n 1, 1) := by decide +kernel
theorem dX4_countMissing_40 : decode cX4_countMissing 40 = .ok (.iinc 2 1, 3) := by decide +kernel
theorem dX4_countMissing_43 : decode cX4_countMissing 43 = .ok (.goto (-39), 3) := by decide +kernel
theorem dX4_countMissing_46 : decode cX4_countMissing 46 = .ok (.iload_n 1, 1) := by decide +kernel
theorem dX4_countMissing_47 : decode cX4_countMissing 47 = .ok (.ireturn, 1) := by decide +kernel
theorem dX6_allForms_0 : decode cX6_allForms 0 = .ok (.aload_n 0, 1) := by decide +kernel
theorem dX6_allForms_1 : decode cX6_allForms 1 = .ok (.getfield 38, 3) := by decide +kernel
theorem dX6_allForms_4 : decode cX6_allForms 4 = .ok (.ifCond .ne 7, 3) := by decide +kernel
theorem dX6_allForms_7 : decode cX6_allForms 7 = .ok (.iconst 0, 1) := by decide +kernel
theorem dX6_allForms_8 : decode cX6_allForms 8 = .ok (.goto 4, 3) := by decide +kernel
theorem dX6_allForms_11 : decode cX6_allForms 11 = .ok (.iconst 1, 1) := by decide +kernel
theorem dX6_allForms_12 : decode cX6_allForms 12 = .ok (.istore_n 1, 1) := by decide +kernel
theorem dX6_allForms_13 : decode cX6_allForms 13 = .ok (.iconst 0, 1) := by decide +kernel
theorem dX6_allForms_14 : decode cX6_allForms 14 = .ok (.istore_n 2, 1) := by decide +kernel
theorem dX6_allForms_15 : decode cX6_allForms 15 = .ok (.iload_n 2, 1) := by decide +kernel
theorem dX6_allForms_16 : decode cX6_allForms 16 = .ok (.aload_n 0, 1) := by decide +kernel
theorem dX6_allForms_17 : decode cX6_allForms 17 = .ok (.getfield 38, 3) := by decide +kernel
theorem dX6_allForms_20 : decode cX6_allForms 20 = .ok (.if_icmp .ge 18, 3) := by decide +kernel
theorem dX6_allForms_23 : decode cX6_allForms 23 = .ok (.iload_n 1, 1) := by decide +kernel
theorem dX6_allForms_24 : decode cX6_allForms 24 = .ok (.aload_n 0, 1) := by decide +kernel
theorem dX6_allForms_25 : decode cX6_allForms 25 = .ok (.getfield 9, 3) := by decide +kernel
theorem dX6_allForms_28 : decode cX6_allForms 28 = .ok (.iload_n 2, 1) := by decide +kernel
theorem dX6_allForms_29 : decode cX6_allForms 29 = .ok (.iaload, 1) := by decide +kernel
theorem dX6_allForms_30 : decode cX6_allForms 30 = .ok (.imul, 1) := by decide +kernel
theorem dX6_allForms_31 : decode cX6_allForms 31 = .ok (.istore_n 1, 1) := by decide +kernel
theorem dX6_allForms_32 : decode cX6_allForms 32 = .ok (.iinc 2 1, 3) := by decide +kernel
theorem dX6_allForms_35 : decode cX6_allForms 35 = .ok (.goto (-20), 3) := by decide +kernel
theorem dX6_allForms_38 : decode cX6_allForms 38 = .ok (.iload_n 1, 1) := by decide +kernel
theorem dX6_allForms_39 : decode cX6_allForms 39 = .ok (.ireturn, 1) := by decide +kernel
theorem dX4_countMendable_0 : decode cX4_countMendable 0 = .ok (.aload_n 0, 1) := by decide +kernel
theorem dX4_countMendable_1 : decode cX4_countMendable 1 = .ok (.getfield 22, 3) := by decide +kernel
theorem dX4_countMendable_4 : decode cX4_countMendable 4 = .ok (.getfield 62, 3) := by decide +kernel
theorem dX4_countMendable_7 : decode cX4_countMendable 7 = .ok (.ifCond .le 13, 3) := by decide +kernel
theorem dX4_countMendable_10 : decode cX4_countMendable 10 = .ok (.aload_n 0, 1) := by decide +kernel
theorem dX4_countMendable_11 : decode cX4_countMendable 11 = .ok (.getfield 26, 3) := by decide +kernel
theorem dX4_countMendable_14 : decode cX4_countMendable 14 = .ok (.getfield 30, 3) := by decide +kernel
theorem dX4_countMendable_17 : decode cX4_countMendable 17 = .ok (.goto 4, 3) := by decide +kernel
theorem dX4_countMendable_20 : decode cX4_countMendable 20 = .ok (.iconst 0, 1) := by decide +kernel
theorem dX4_countMendable_21 : decode cX4_countMendable 21 = .ok (.ireturn, 1) := by decide +kernel
noncomputable def nX9_hasRoom (a1 : Int32) (g : zS) : Option Int32 :=
  if (400 : Int32) < ((g.1 1 1) + a1) then (some ((0 : Int32))) else (some ((1 : Int32)))
set_option maxHeartbeats 60000 in
theorem tX9_hasRoom {l : Launch} (hl0 : l.flags = flags0) (a1 : Int32) (g : zS) {r : Int32} (h : nX9_hasRoom a1 g = some r) : zC l yX9_hasRoom cX9_hasRoom 2 ((Option.some Jvm.ClassFile.FieldType.boolean)) 0 0 0 [.ref 1, .int a1] zD g (.inl (some (.int r)), zD, g) := by
  refine zC_of hl0 rfl (Nat.le_of_ble_eq_true rfl) (fun x hG hxl hk _ => ?_)
  subst hxl
  show zK x 0 0 [(0, .ref 1), (1, .int a1)] [] zD g 0 0
  unfold nX9_hasRoom at h
  refine z_aload_n (pc := 0) hG 0 rfl rfl dX9_hasRoom_0 ?_
  refine z_geti (pc := 1) hG zc_X9 inX9 DL_1 1 rfl (by decide) rfl w518 dX9_hasRoom_1 ?_
  refine z_iload_n (pc := 4) hG 1 rfl rfl dX9_hasRoom_4 ?_
  refine z_iadd (pc := 5) hG dX9_hasRoom_5 ?_
  refine z_sipush (pc := 6) hG ks_400 dX9_hasRoom_6 ?_
  refine z_icmp_gt (pc := 9) (tgt := 16) hG dX9_hasRoom_9 rfl (fun hc => ?_) (fun hc => ?_)
  · replace h := zif_t hc h
    refine z_iconst (pc := 16) hG kc_0 dX9_hasRoom_16 ?_
    obtain rfl := Option.some.inj h
    exact z_iret (pc := 17) hG rfl rfl hk dX9_hasRoom_17
  · replace h := zif_f hc h
    refine z_iconst (pc := 12) hG kc_1 dX9_hasRoom_12 ?_
    refine z_goto (pc := 13) (tgt := 17) hG dX9_hasRoom_13 rfl ?_
    obtain rfl := Option.some.inj h
    exact z_iret (pc := 17) hG rfl rfl hk dX9_hasRoom_17
noncomputable def wX9_put_3 (a1 : Int32) (s : (Int32 × zS)) : Option ((Int32 × zS) ⊕ zS) :=
  if s.1 < 0 then (zex (some (s.2))) else (if (400 : Int32) ≤ (s.2.1 1 1) then (zex (some (s.2))) else (zchk (zin (s.2.1 1 1) 400) (some (.inl ((s.1 + (-8 : Int32)), (zi (zi s.2 2 (s.2.1 1 1).toNatClampNeg (vp_nar .byte (a1 >>> (s.1 &&& 31)).toInt8.toInt32)) 1 1 (((zi s.2 2 (s.2.1 1 1).toNatClampNeg (vp_nar .byte (a1 >>> (s.1 &&& 31)).toInt8.toInt32)).1 1 1) + (1 : Int32))))))))
noncomputable def nX9_put (a1 : Int32) (g : zS) : Option zS :=
  wh (wX9_put_3 a1) ((24 : Int32), g)
def qX9_put_3 (x : zXx) (a1 : Int32) (o : (Int32 × zS) ⊕ zS) : Prop := match o with
  | .inl s => zK x 0 3 [(0, .ref 1), (1, .int a1), (2, .int s.1)] [] zD s.2 0 0
  | .inr r => ztg x = (.inl none, zD, r)
set_option maxHeartbeats 60000 in
theorem kwX9_put_3 {x : zXx} (hG : zG x cX9_put 3 RX9 ((Option.none : Option Jvm.ClassFile.FieldType))) (hl0 : (zl0 x).flags = flags0) (a1 : Int32) {o : zS} (hk : ztg x = (.inl none, zD, o)) : ∀ s : (Int32 × zS), wh (wX9_put_3 a1) s = some o → zK x 0 3 [(0, .ref 1), (1, .int a1), (2, .int s.1)] [] zD s.2 0 0 := by
  refine wh_ind (fun s : (Int32 × zS) => zK x 0 3 [(0, .ref 1), (1, .int a1), (2, .int s.1)] [] zD s.2 0 0) (fun s o h hk2 => ?_)
  replace hk : qX9_put_3 x a1 o := by
    cases o with
    | inl s => exact hk2
    | inr r => subst hk2; exact hk
  clear hk2
  unfold wX9_put_3 at h
  refine z_iload_n (pc := 3) hG 2 rfl rfl dX9_put_3 ?_
  refine z_if_lt (pc := 4) (tgt := 46) hG dX9_put_4 rfl (fun hc => ?_) (fun hc => ?_)
  · replace h := zif_t hc h
    replace h := zex_some h
    obtain ⟨o, h, rfl⟩ := h
    obtain rfl := Option.some.inj h
    exact z_vret (pc := 46) hG rfl hk dX9_put_46
  · replace h := zif_f hc h
    refine z_aload_n (pc := 7) hG 0 rfl rfl dX9_put_7 ?_
    refine z_geti (pc := 8) hG zc_X9 inX9 DL_1 1 rfl (by decide) rfl w518 dX9_put_8 ?_
    refine z_sipush (pc := 11) hG ks_400 dX9_put_11 ?_
    refine z_icmp_ge (pc := 14) (tgt := 46) hG dX9_put_14 rfl (fun hc => ?_) (fun hc => ?_)
    · replace h := zif_t hc h
      replace h := zex_some h
      obtain ⟨o, h, rfl⟩ := h
      obtain rfl := Option.some.inj h
      exact z_vret (pc := 46) hG rfl hk dX9_put_46
    · replace h := zif_f hc h
      refine z_aload_n (pc := 17) hG 0 rfl rfl dX9_put_17 ?_
      refine z_getr (pc := 18) hG zc_X9 inX9 DL_1 0 rfl (by decide) rfl w517 dX9_put_18 ?_
      refine z_aload_n (pc := 21) hG 0 rfl rfl dX9_put_21 ?_
      refine z_geti (pc := 22) hG zc_X9 inX9 DL_1 1 rfl (by decide) rfl w518 dX9_put_22 ?_
      refine z_iload_n (pc := 25) hG 1 rfl rfl dX9_put_25 ?_
      refine z_iload_n (pc := 26) hG 2 rfl rfl dX9_put_26 ?_
      refine z_ishr (pc := 27) hG dX9_put_27 ?_
      refine z_i2b (pc := 28) hG dX9_put_28 ?_
      replace h := zchk_some h
      obtain ⟨hc, h⟩ := h
      refine z_bast (pc := 29) hG DL_2 (zin_in hc) dX9_put_29 ?_
      refine z_aload_n (pc := 30) hG 0 rfl rfl dX9_put_30 ?_
      refine z_dup (pc := 31) hG rfl dX9_put_31 ?_
      refine z_geti (pc := 32) hG zc_X9 inX9 DL_1 1 rfl (by decide) rfl w518 dX9_put_32 ?_
      refine z_iconst (pc := 35) hG kc_1 dX9_put_35 ?_
      refine z_iadd (pc := 36) hG dX9_put_36 ?_
      refine z_puti (pc := 37) hG zc_X9 inX9 tyX9 tyX9_ok nmX9 DL_1 1 rfl (by decide) rfl w518 rfl rfl rfl dX9_put_37 ?_
      refine z_iinc (pc := 40) (ls' := [(2, .int (s.1 + (-8 : Int32))), (0, .ref 1), (1, .int a1)]) hG 2 rfl [0, 1, 2] (ki_m8 _) (by decide) rfl dX9_put_40 ?_
      refine z_goto (pc := 43) (tgt := 3) hG dX9_put_43 rfl ?_
      obtain rfl := Option.some.inj h
      refine z_sub (ls' := [(0, .ref 1), (1, .int a1), (2, .int (s.1 + (-8 : Int32)))]) [1, 2, 0] rfl ?_
      exact hk
set_option maxHeartbeats 60000 in
theorem tX9_put {l : Launch} (hl0 : l.flags = flags0) (a1 : Int32) (g : zS) {r : zS} (h : nX9_put a1 g = some r) : zC l yX9_put cX9_put 3 ((Option.none : Option Jvm.ClassFile.FieldType)) 0 0 0 [.ref 1, .int a1] zD g (.inl none, zD, r) := by
  refine zC_of hl0 rfl (Nat.le_of_ble_eq_true rfl) (fun x hG hxl hk _ => ?_)
  subst hxl
  show zK x 0 0 [(0, .ref 1), (1, .int a1)] [] zD g 0 0
  unfold nX9_put at h
  refine z_bipush (pc := 0) hG kb_24 dX9_put_0 ?_
  refine z_istore_n (pc := 2) (ls' := [(2, .int (24 : Int32)), (0, .ref 1), (1, .int a1)]) hG [0, 1, 2] rfl (by decide) rfl dX9_put_2 ?_
  refine z_sub (ls' := [(0, .ref 1), (1, .int a1), (2, .int (24 : Int32))]) [1, 2, 0] rfl ?_
  exact kwX9_put_3 hG hl0 a1 hk ((24 : Int32), g) h
noncomputable def nX6_clear_d (g : zS) : Option zS :=
  some ((zi (zi (zi (zi g 11 0 (0 : Int32)) 11 6 (-1 : Int32)) 11 7 (0 : Int32)) 11 9 (0 : Int32)))
set_option maxHeartbeats 60000 in
theorem tX6_clear_d {l : Launch} (hl0 : l.flags = flags0) (g : zS) {r : zS} (h : nX6_clear_d g = some r) : zC l yX6_clear cX6_clear 1 ((Option.none : Option Jvm.ClassFile.FieldType)) 0 0 0 [.ref 11] zD g (.inl none, zD, r) := by
  refine zC_of hl0 rfl (Nat.le_of_ble_eq_true rfl) (fun x hG hxl hk _ => ?_)
  subst hxl
  show zK x 0 0 [(0, .ref 11)] [] zD g 0 0
  unfold nX6_clear_d at h
  refine z_aload_n (pc := 0) hG 0 rfl rfl dX6_clear_0 ?_
  refine z_iconst (pc := 1) hG kc_0 dX6_clear_1 ?_
  refine z_puti (pc := 2) hG zc_X6 inX6 tyX6 tyX6_ok nmX6 DL_11 0 rfl (by decide) rfl w532 rfl rfl rfl dX6_clear_2 ?_
  refine z_aload_n (pc := 5) hG 0 rfl rfl dX6_clear_5 ?_
  refine z_iconst (pc := 6) hG kc_m1 dX6_clear_6 ?_
  refine z_puti (pc := 7) hG zc_X6 inX6 tyX6 tyX6_ok nmX6 DL_11 6 rfl (by decide) rfl w553 rfl rfl rfl dX6_clear_7 ?_
  refine z_aload_n (pc := 10) hG 0 rfl rfl dX6_clear_10 ?_
  refine z_iconst (pc := 11) hG kc_0 dX6_clear_11 ?_
  refine z_puti (pc := 12) hG zc_X6 inX6 tyX6 tyX6_ok nmX6 DL_11 7 rfl (by decide) rfl w557 rfl rfl rfl dX6_clear_12 ?_
  refine z_aload_n (pc := 15) hG 0 rfl rfl dX6_clear_15 ?_
  refine z_iconst (pc := 16) hG kc_0 dX6_clear_16 ?_
  refine z_puti (pc := 17) hG zc_X6 inX6 tyX6 tyX6_ok nmX6 DL_11 9 rfl (by decide) rfl w564 rfl rfl rfl dX6_clear_17 ?_
  obtain rfl := Option.some.inj h
  exact z_vret (pc := 20) hG rfl hk dX6_clear_20
noncomputable def nX9_at (a1 : Int32) (g : zS) : Option Int32 :=
  if a1 < 0 then (some ((-1 : Int32))) else (if a1 < (g.1 1 1) then (zchk (zin a1 400) (some (((g.1 2 a1.toNatClampNeg) &&& (255 : Int32))))) else (some ((-1 : Int32))))
set_option maxHeartbeats 60000 in
theorem tX9_at {l : Launch} (hl0 : l.flags = flags0) (a1 : Int32) (g : zS) {r : Int32} (h : nX9_at a1 g = some r) : zC l yX9_at cX9_at 2 ((Option.some Jvm.ClassFile.FieldType.int)) 0 0 0 [.ref 1, .int a1] zD g (.inl (some (.int r)), zD, g) := by
  refine zC_of hl0 rfl (Nat.le_of_ble_eq_true rfl) (fun x hG hxl hk _ => ?_)
  subst hxl
  show zK x 0 0 [(0, .ref 1), (1, .int a1)] [] zD g 0 0
  unfold nX9_at at h
  refine z_iload_n (pc := 0) hG 1 rfl rfl dX9_at_0 ?_
  refine z_if_lt (pc := 1) (tgt := 12) hG dX9_at_1 rfl (fun hc => ?_) (fun hc => ?_)
  · replace h := zif_t hc h
    refine z_iconst (pc := 12) hG kc_m1 dX9_at_12 ?_
    refine z_goto (pc := 13) (tgt := 26) hG dX9_at_13 rfl ?_
    obtain rfl := Option.some.inj h
    exact z_iret (pc := 26) hG rfl rfl hk dX9_at_26
  · replace h := zif_f hc h
    refine z_iload_n (pc := 4) hG 1 rfl rfl dX9_at_4 ?_
    refine z_aload_n (pc := 5) hG 0 rfl rfl dX9_at_5 ?_
    refine z_geti (pc := 6) hG zc_X9 inX9 DL_1 1 rfl (by decide) rfl w518 dX9_at_6 ?_
    refine z_icmp_lt (pc := 9) (tgt := 16) hG dX9_at_9 rfl (fun hc => ?_) (fun hc => ?_)
    · replace h := zif_t hc h
      refine z_aload_n (pc := 16) hG 0 rfl rfl dX9_at_16 ?_
      refine z_getr (pc := 17) hG zc_X9 inX9 DL_1 0 rfl (by decide) rfl w517 dX9_at_17 ?_
      refine z_iload_n (pc := 20) hG 1 rfl rfl dX9_at_20 ?_
      replace h := zchk_some h
      obtain ⟨hc, h⟩ := h
      refine z_bald (pc := 21) hG DL_2 (zin_in hc) dX9_at_21 ?_
      refine z_sipush (pc := 22) hG ks_255 dX9_at_22 ?_
      refine z_iand (pc := 25) hG dX9_at_25 ?_
      obtain rfl := Option.some.inj h
      exact z_iret (pc := 26) hG rfl rfl hk dX9_at_26
    · replace h := zif_f hc h
      refine z_iconst (pc := 12) hG kc_m1 dX9_at_12 ?_
      refine z_goto (pc := 13) (tgt := 26) hG dX9_at_13 rfl ?_
      obtain rfl := Option.some.inj h
      exact z_iret (pc := 26) hG rfl rfl hk dX9_at_26
noncomputable def nX7_isLetter (a0 : Int32) : Option Int32 :=
  if a0 < (97 : Int32) then (some ((0 : Int32))) else (if (122 : Int32) < a0 then (some ((0 : Int32))) else (some ((1 : Int32))))
set_option maxHeartbeats 60000 in
theorem tX7_isLetter {l : Launch} (hl0 : l.flags = flags0) (a0 : Int32) (g : zS) {r : Int32} (h : nX7_isLetter a0 = some r) : zC l yX7_isLetter cX7_isLetter 1 ((Option.some Jvm.ClassFile.FieldType.boolean)) 0 0 0 [.int a0] zD g (.inl (some (.int r)), zD, g) := by
  refine zC_of hl0 rfl (Nat.le_of_ble_eq_true rfl) (fun x hG hxl hk _ => ?_)
  subst hxl
  show zK x 0 0 [(0, .int a0)] [] zD g 0 0
  unfold nX7_isLetter at h
  refine z_iload_n (pc := 0) hG 0 rfl rfl dX7_isLetter_0 ?_
  refine z_bipush (pc := 1) hG kb_97 dX7_isLetter_1 ?_
  refine z_icmp_lt (pc := 3) (tgt := 16) hG dX7_isLetter_3 rfl (fun hc => ?_) (fun hc => ?_)
  · replace h := zif_t hc h
    refine z_iconst (pc := 16) hG kc_0 dX7_isLetter_16 ?_
    obtain rfl := Option.some.inj h
    exact z_iret (pc := 17) hG rfl rfl hk dX7_isLetter_17
  · replace h := zif_f hc h
    refine z_iload_n (pc := 6) hG 0 rfl rfl dX7_isLetter_6 ?_
    refine z_bipush (pc := 7) hG kb_122 dX7_isLetter_7 ?_
    refine z_icmp_gt (pc := 9) (tgt := 16) hG dX7_isLetter_9 rfl (fun hc => ?_) (fun hc => ?_)
    · replace h := zif_t hc h
      refine z_iconst (pc := 16) hG kc_0 dX7_isLetter_16 ?_
      obtain rfl := Option.some.inj h
      exact z_iret (pc := 17) hG rfl rfl hk dX7_isLetter_17
    · replace h := zif_f hc h
      refine z_iconst (pc := 12) hG kc_1 dX7_isLetter_12 ?_
      refine z_goto (pc := 13) (tgt := 17) hG dX7_isLetter_13 rfl ?_
      obtain rfl := Option.some.inj h
      exact z_iret (pc := 17) hG rfl rfl hk dX7_isLetter_17
noncomputable def nX7_isDigit (a0 : Int32) : Option Int32 :=
  if a0 < (48 : Int32) then (some ((0 : Int32))) else (if (57 : Int32) < a0 then (some ((0 : Int32))) else (some ((1 : Int32))))
set_option maxHeartbeats 60000 in
theorem tX7_isDigit {l : Launch} (hl0 : l.flags = flags0) (a0 : Int32) (g : zS) {r : Int32} (h : nX7_isDigit a0 = some r) : zC l yX7_isDigit cX7_isDigit 1 ((Option.some Jvm.ClassFile.FieldType.boolean)) 0 0 0 [.int a0] zD g (.inl (some (.int r)), zD, g) := by
  refine zC_of hl0 rfl (Nat.le_of_ble_eq_true rfl) (fun x hG hxl hk _ => ?_)
  subst hxl
  show zK x 0 0 [(0, .int a0)] [] zD g 0 0
  unfold nX7_isDigit at h
  refine z_iload_n (pc := 0) hG 0 rfl rfl dX7_isDigit_0 ?_
  refine z_bipush (pc := 1) hG kb_48 dX7_isDigit_1 ?_
  refine z_icmp_lt (pc := 3) (tgt := 16) hG dX7_isDigit_3 rfl (fun hc => ?_) (fun hc => ?_)
  · replace h := zif_t hc h
    refine z_iconst (pc := 16) hG kc_0 dX7_isDigit_16 ?_
    obtain rfl := Option.some.inj h
    exact z_iret (pc := 17) hG rfl rfl hk dX7_isDigit_17
  · replace h := zif_f hc h
    refine z_iload_n (pc := 6) hG 0 rfl rfl dX7_isDigit_6 ?_
    refine z_bipush (pc := 7) hG kb_57 dX7_isDigit_7 ?_
    refine z_icmp_gt (pc := 9) (tgt := 16) hG dX7_isDigit_9 rfl (fun hc => ?_) (fun hc => ?_)
    · replace h := zif_t hc h
      refine z_iconst (pc := 16) hG kc_0 dX7_isDigit_16 ?_
      obtain rfl := Option.some.inj h
      exact z_iret (pc := 17) hG rfl rfl hk dX7_isDigit_17
    · replace h := zif_f hc h
      refine z_iconst (pc := 12) hG kc_1 dX7_isDigit_12 ?_
      refine z_goto (pc := 13) (tgt := 17) hG dX7_isDigit_13 rfl ?_
      obtain rfl := Option.some.inj h
      exact z_iret (pc := 17) hG rfl rfl hk dX7_isDigit_17
noncomputable def nX7_isBlank (a0 : Int32) : Option Int32 :=
  if a0 = (9 : Int32) then (some ((1 : Int32))) else (if a0 = (10 : Int32) then (some ((1 : Int32))) else (if a0 = (32 : Int32) then (some ((1 : Int32))) else (some ((0 : Int32)))))
set_option maxHeartbeats 60000 in
theorem tX7_isBlank {l : Launch} (hl0 : l.flags = flags0) (a0 : Int32) (g : zS) {r : Int32} (h : nX7_isBlank a0 = some r) : zC l yX7_isBlank cX7_isBlank 1 ((Option.some Jvm.ClassFile.FieldType.boolean)) 0 0 0 [.int a0] zD g (.inl (some (.int r)), zD, g) := by
  refine zC_of hl0 rfl (Nat.le_of_ble_eq_true rfl) (fun x hG hxl hk _ => ?_)
  subst hxl
  show zK x 0 0 [(0, .int a0)] [] zD g 0 0
  unfold nX7_isBlank at h
  refine z_iload_n (pc := 0) hG 0 rfl rfl dX7_isBlank_0 ?_
  refine z_bipush (pc := 1) hG kb_9 dX7_isBlank_1 ?_
  refine z_icmp_eq (pc := 3) (tgt := 18) hG dX7_isBlank_3 rfl (fun hc => ?_) (fun hc => ?_)
  · replace h := zif_t hc h
    refine z_iconst (pc := 18) hG kc_1 dX7_isBlank_18 ?_
    refine z_goto (pc := 19) (tgt := 23) hG dX7_isBlank_19 rfl ?_
    obtain rfl := Option.some.inj h
    exact z_iret (pc := 23) hG rfl rfl hk dX7_isBlank_23
  · replace h := zif_f hc h
    refine z_iload_n (pc := 6) hG 0 rfl rfl dX7_isBlank_6 ?_
    refine z_bipush (pc := 7) hG kb_10 dX7_isBlank_7 ?_
    refine z_icmp_eq (pc := 9) (tgt := 18) hG dX7_isBlank_9 rfl (fun hc => ?_) (fun hc => ?_)
    · replace h := zif_t hc h
      refine z_iconst (pc := 18) hG kc_1 dX7_isBlank_18 ?_
      refine z_goto (pc := 19) (tgt := 23) hG dX7_isBlank_19 rfl ?_
      obtain rfl := Option.some.inj h
      exact z_iret (pc := 23) hG rfl rfl hk dX7_isBlank_23
    · replace h := zif_f hc h
      refine z_iload_n (pc := 12) hG 0 rfl rfl dX7_isBlank_12 ?_
      refine z_bipush (pc := 13) hG kb_32 dX7_isBlank_13 ?_
      refine z_icmp_ne (pc := 15) (tgt := 22) hG dX7_isBlank_15 rfl (fun hc => ?_) (fun hc => ?_)
      · replace h := zif_f hc h
        refine z_iconst (pc := 22) hG kc_0 dX7_isBlank_22 ?_
        obtain rfl := Option.some.inj h
        exact z_iret (pc := 23) hG rfl rfl hk dX7_isBlank_23
      · replace h := zif_t hc h
        refine z_iconst (pc := 18) hG kc_1 dX7_isBlank_18 ?_
        refine z_goto (pc := 19) (tgt := 23) hG dX7_isBlank_19 rfl ?_
        obtain rfl := Option.some.inj h
        exact z_iret (pc := 23) hG rfl rfl hk dX7_isBlank_23
noncomputable def wX7_next_138  (s : zS) : Option (zS ⊕ zS) :=
  if (s.1 1 1) ≤ (s.1 19 3) then (zex (some (s))) else ((nX9_at (s.1 19 3) s).bind fun v5 => (nX7_isDigit v5).bind fun v6 => if v6 = 0 then (zex (some (s))) else (some (.inl (zi s 19 3 ((s.1 19 3) + (1 : Int32))))))
noncomputable def wX7_next_77  (s : zS) : Option (zS ⊕ zS) :=
  if (s.1 1 1) ≤ (s.1 19 3) then (zex (some (s))) else ((nX9_at (s.1 19 3) s).bind fun v7 => (nX7_isLetter v7).bind fun v8 => if v8 = 0 then (zex (some (s))) else (some (.inl (zi s 19 3 ((s.1 19 3) + (1 : Int32))))))
noncomputable def jX7_next_52 (g : zS) : Option zS :=
  (nX9_at ((zi g 19 3 (g.1 19 2)).1 19 2) (zi g 19 3 (g.1 19 2))).bind fun v1 => (nX7_isLetter v1).bind fun v2 => if v2 = 0 then ((nX9_at ((zi g 19 3 (g.1 19 2)).1 19 2) (zi g 19 3 (g.1 19 2))).bind fun v3 => (nX7_isDigit v3).bind fun v4 => if v4 = 0 then (if ((zi g 19 3 (g.1 19 2)).1 1 1) ≤ ((zi g 19 3 (g.1 19 2)).1 19 2) then (some ((zi g 19 3 (g.1 19 2)))) else (some ((zi (zi g 19 3 (g.1 19 2)) 19 3 (((zi g 19 3 (g.1 19 2)).1 19 3) + (1 : Int32)))))) else (wh (wX7_next_138 ) (zi g 19 3 (g.1 19 2)))) else (wh (wX7_next_77 ) (zi g 19 3 (g.1 19 2)))
noncomputable def wX7_next_8  (s : zS) : Option (zS ⊕ zS) :=
  if (s.1 1 1) ≤ (s.1 19 2) then (zex (jX7_next_52 s)) else ((nX9_at (s.1 19 2) s).bind fun v9 => (nX7_isBlank v9).bind fun v10 => if v10 = 0 then (zex (jX7_next_52 s)) else (some (.inl (zi s 19 2 ((s.1 19 2) + (1 : Int32))))))
noncomputable def nX7_next (g : zS) : Option zS :=
  wh (wX7_next_8 ) (zi g 19 2 (g.1 19 3))
def qX7_next_8 (x : zXx)  (o : zS ⊕ zS) : Prop := match o with
  | .inl s => zK x 1 8 [(0, .ref 19)] [] zD s 0 0
  | .inr r => ztg x = (.inl none, zD, r)
def qX7_next_138 (x : zXx)  (o : zS ⊕ zS) : Prop := match o with
  | .inl s => zK x 1 138 [(0, .ref 19)] [] zD s 0 0
  | .inr r => ztg x = (.inl none, zD, r)
def qX7_next_77 (x : zXx)  (o : zS ⊕ zS) : Prop := match o with
  | .inl s => zK x 1 77 [(0, .ref 19)] [] zD s 0 0
  | .inr r => ztg x = (.inl none, zD, r)
set_option maxHeartbeats 60000 in
theorem kwX7_next_138 {x : zXx} (hG : zG x cX7_next 1 RX7 ((Option.none : Option Jvm.ClassFile.FieldType))) (hl0 : (zl0 x).flags = flags0)  {o : zS} (hk : ztg x = (.inl none, zD, o)) : ∀ s : zS, wh (wX7_next_138 ) s = some o → zK x 1 138 [(0, .ref 19)] [] zD s 0 0 := by
  refine wh_ind (fun s : zS => zK x 1 138 [(0, .ref 19)] [] zD s 0 0) (fun s o h hk2 => ?_)
  replace hk : qX7_next_138 x  o := by
    cases o with
    | inl s => exact hk2
    | inr r => subst hk2; exact hk
  clear hk2
  unfold wX7_next_138 at h
  refine z_aload_n (pc := 138) hG 0 rfl rfl dX7_next_138 ?_
  refine z_geti (pc := 139) hG zc_X7 inX7 DL_19 3 rfl (by decide) rfl w601 dX7_next_139 ?_
  refine z_aload_n (pc := 142) hG 0 rfl rfl dX7_next_142 ?_
  refine z_getr (pc := 143) hG zc_X7 inX7 DL_19 0 rfl (by decide) rfl w598 dX7_next_143 ?_
  refine z_geti (pc := 146) hG zc_X9 inX9 DL_1 1 rfl (by decide) rfl w520 dX7_next_146 ?_
  refine z_icmp_ge (pc := 149) (tgt := 206) hG dX7_next_149 rfl (fun hc => ?_) (fun hc => ?_)
  · replace h := zif_t hc h
    replace h := zex_some h
    obtain ⟨o, h, rfl⟩ := h
    obtain rfl := Option.some.inj h
    exact z_vret (pc := 206) hG rfl hk dX7_next_206
  · replace h := zif_f hc h
    refine z_aload_n (pc := 152) hG 0 rfl rfl dX7_next_152 ?_
    refine z_getr (pc := 153) hG zc_X7 inX7 DL_19 0 rfl (by decide) rfl w598 dX7_next_153 ?_
    refine z_aload_n (pc := 156) hG 0 rfl rfl dX7_next_156 ?_
    refine z_geti (pc := 157) hG zc_X7 inX7 DL_19 3 rfl (by decide) rfl w601 dX7_next_157 ?_
    replace h := zbind h
    obtain ⟨v5, hv5, h⟩ := h
    refine z_cvI (pc := 160) (A' := 0) (B' := 0) hG [.int (s.1 19 3)] [] zc_X9 DL_1 (tX9_at hl0 (s.1 19 3) s hv5) zy_X9_at ⟨w1124, w1125⟩ w1123 dX7_next_160 rfl (Nat.le_of_ble_eq_true rfl) rfl rfl rfl (Nat.le_of_ble_eq_true rfl) rfl ?_
    replace h := zbind h
    obtain ⟨v6, hv6, h⟩ := h
    refine z_csI (pc := 163) (A' := 0) (B' := 0) hG [.int v5] [] (tX7_isDigit hl0 v5 s hv6) zy_X7_isDigit w1134 w1133 dX7_next_163 rfl (Nat.le_of_ble_eq_true rfl) rfl rfl rfl (Nat.le_of_ble_eq_true rfl) rfl ?_
    refine z_if_eq (pc := 166) (tgt := 206) hG dX7_next_166 rfl (fun hc => ?_) (fun hc => ?_)
    · replace h := zif_t hc h
      replace h := zex_some h
      obtain ⟨o, h, rfl⟩ := h
      obtain rfl := Option.some.inj h
      exact z_vret (pc := 206) hG rfl hk dX7_next_206
    · replace h := zif_f hc h
      refine z_aload_n (pc := 169) hG 0 rfl rfl dX7_next_169 ?_
      refine z_dup (pc := 170) hG rfl dX7_next_170 ?_
      refine z_geti (pc := 171) hG zc_X7 inX7 DL_19 3 rfl (by decide) rfl w601 dX7_next_171 ?_
      refine z_iconst (pc := 174) hG kc_1 dX7_next_174 ?_
      refine z_iadd (pc := 175) hG dX7_next_175 ?_
      refine z_puti (pc := 176) hG zc_X7 inX7 tyX7 tyX7_ok nmX7 DL_19 3 rfl (by decide) rfl w601 rfl rfl rfl dX7_next_176 ?_
      refine z_goto (pc := 179) (tgt := 138) hG dX7_next_179 rfl ?_
      obtain rfl := Option.some.inj h
      exact hk
set_option maxHeartbeats 60000 in
theorem kwX7_next_77 {x : zXx} (hG : zG x cX7_next 1 RX7 ((Option.none : Option Jvm.ClassFile.FieldType))) (hl0 : (zl0 x).flags = flags0)  {o : zS} (hk : ztg x = (.inl none, zD, o)) : ∀ s : zS, wh (wX7_next_77 ) s = some o → zK x 1 77 [(0, .ref 19)] [] zD s 0 0 := by
  refine wh_ind (fun s : zS => zK x 1 77 [(0, .ref 19)] [] zD s 0 0) (fun s o h hk2 => ?_)
  replace hk : qX7_next_77 x  o := by
    cases o with
    | inl s => exact hk2
    | inr r => subst hk2; exact hk
  clear hk2
  unfold wX7_next_77 at h
  refine z_aload_n (pc := 77) hG 0 rfl rfl dX7_next_77 ?_
  refine z_geti (pc := 78) hG zc_X7 inX7 DL_19 3 rfl (by decide) rfl w601 dX7_next_78 ?_
  refine z_aload_n (pc := 81) hG 0 rfl rfl dX7_next_81 ?_
  refine z_getr (pc := 82) hG zc_X7 inX7 DL_19 0 rfl (by decide) rfl w598 dX7_next_82 ?_
  refine z_geti (pc := 85) hG zc_X9 inX9 DL_1 1 rfl (by decide) rfl w520 dX7_next_85 ?_
  refine z_icmp_ge (pc := 88) (tgt := 206) hG dX7_next_88 rfl (fun hc => ?_) (fun hc => ?_)
  · replace h := zif_t hc h
    replace h := zex_some h
    obtain ⟨o, h, rfl⟩ := h
    obtain rfl := Option.some.inj h
    exact z_vret (pc := 206) hG rfl hk dX7_next_206
  · replace h := zif_f hc h
    refine z_aload_n (pc := 91) hG 0 rfl rfl dX7_next_91 ?_
    refine z_getr (pc := 92) hG zc_X7 inX7 DL_19 0 rfl (by decide) rfl w598 dX7_next_92 ?_
    refine z_aload_n (pc := 95) hG 0 rfl rfl dX7_next_95 ?_
    refine z_geti (pc := 96) hG zc_X7 inX7 DL_19 3 rfl (by decide) rfl w601 dX7_next_96 ?_
    replace h := zbind h
    obtain ⟨v7, hv7, h⟩ := h
    refine z_cvI (pc := 99) (A' := 0) (B' := 0) hG [.int (s.1 19 3)] [] zc_X9 DL_1 (tX9_at hl0 (s.1 19 3) s hv7) zy_X9_at ⟨w1124, w1125⟩ w1123 dX7_next_99 rfl (Nat.le_of_ble_eq_true rfl) rfl rfl rfl (Nat.le_of_ble_eq_true rfl) rfl ?_
    replace h := zbind h
    obtain ⟨v8, hv8, h⟩ := h
    refine z_csI (pc := 102) (A' := 0) (B' := 0) hG [.int v7] [] (tX7_isLetter hl0 v7 s hv8) zy_X7_isLetter w1131 w1130 dX7_next_102 rfl (Nat.le_of_ble_eq_true rfl) rfl rfl rfl (Nat.le_of_ble_eq_true rfl) rfl ?_
    refine z_if_eq (pc := 105) (tgt := 206) hG dX7_next_105 rfl (fun hc => ?_) (fun hc => ?_)
    · replace h := zif_t hc h
      replace h := zex_some h
      obtain ⟨o, h, rfl⟩ := h
      obtain rfl := Option.some.inj h
      exact z_vret (pc := 206) hG rfl hk dX7_next_206
    · replace h := zif_f hc h
      refine z_aload_n (pc := 108) hG 0 rfl rfl dX7_next_108 ?_
      refine z_dup (pc := 109) hG rfl dX7_next_109 ?_
      refine z_geti (pc := 110) hG zc_X7 inX7 DL_19 3 rfl (by decide) rfl w601 dX7_next_110 ?_
      refine z_iconst (pc := 113) hG kc_1 dX7_next_113 ?_
      refine z_iadd (pc := 114) hG dX7_next_114 ?_
      refine z_puti (pc := 115) hG zc_X7 inX7 tyX7 tyX7_ok nmX7 DL_19 3 rfl (by decide) rfl w601 rfl rfl rfl dX7_next_115 ?_
      refine z_goto (pc := 118) (tgt := 77) hG dX7_next_118 rfl ?_
      obtain rfl := Option.some.inj h
      exact hk
set_option maxHeartbeats 60000 in
theorem kjX7_next_52 {x : zXx} (hG : zG x cX7_next 1 RX7 ((Option.none : Option Jvm.ClassFile.FieldType))) (hl0 : (zl0 x).flags = flags0) (g : zS) {o : zS} (h : jX7_next_52 g = some o) (hk : ztg x = (.inl none, zD, o)) : zK x 1 52 [(0, .ref 19)] [] zD g 0 0 := by
  unfold jX7_next_52 at h
  refine z_aload_n (pc := 52) hG 0 rfl rfl dX7_next_52 ?_
  refine z_aload_n (pc := 53) hG 0 rfl rfl dX7_next_53 ?_
  refine z_geti (pc := 54) hG zc_X7 inX7 DL_19 2 rfl (by decide) rfl w600 dX7_next_54 ?_
  refine z_puti (pc := 57) hG zc_X7 inX7 tyX7 tyX7_ok nmX7 DL_19 3 rfl (by decide) rfl w601 rfl rfl rfl dX7_next_57 ?_
  refine z_aload_n (pc := 60) hG 0 rfl rfl dX7_next_60 ?_
  refine z_getr (pc := 61) hG zc_X7 inX7 DL_19 0 rfl (by decide) rfl w598 dX7_next_61 ?_
  refine z_aload_n (pc := 64) hG 0 rfl rfl dX7_next_64 ?_
  refine z_geti (pc := 65) hG zc_X7 inX7 DL_19 2 rfl (by decide) rfl w600 dX7_next_65 ?_
  replace h := zbind h
  obtain ⟨v1, hv1, h⟩ := h
  refine z_cvI (pc := 68) (A' := 0) (B' := 0) hG [.int ((zi g 19 3 (g.1 19 2)).1 19 2)] [] zc_X9 DL_1 (tX9_at hl0 ((zi g 19 3 (g.1 19 2)).1 19 2) (zi g 19 3 (g.1 19 2)) hv1) zy_X9_at ⟨w1124, w1125⟩ w1123 dX7_next_68 rfl (Nat.le_of_ble_eq_true rfl) rfl rfl rfl (Nat.le_of_ble_eq_true rfl) rfl ?_
  replace h := zbind h
  obtain ⟨v2, hv2, h⟩ := h
  refine z_csI (pc := 71) (A' := 0) (B' := 0) hG [.int v1] [] (tX7_isLetter hl0 v1 (zi g 19 3 (g.1 19 2)) hv2) zy_X7_isLetter w1131 w1130 dX7_next_71 rfl (Nat.le_of_ble_eq_true rfl) rfl rfl rfl (Nat.le_of_ble_eq_true rfl) rfl ?_
  refine z_if_eq (pc := 74) (tgt := 121) hG dX7_next_74 rfl (fun hc => ?_) (fun hc => ?_)
  · replace h := zif_t hc h
    refine z_aload_n (pc := 121) hG 0 rfl rfl dX7_next_121 ?_
    refine z_getr (pc := 122) hG zc_X7 inX7 DL_19 0 rfl (by decide) rfl w598 dX7_next_122 ?_
    refine z_aload_n (pc := 125) hG 0 rfl rfl dX7_next_125 ?_
    refine z_geti (pc := 126) hG zc_X7 inX7 DL_19 2 rfl (by decide) rfl w600 dX7_next_126 ?_
    replace h := zbind h
    obtain ⟨v3, hv3, h⟩ := h
    refine z_cvI (pc := 129) (A' := 0) (B' := 0) hG [.int ((zi g 19 3 (g.1 19 2)).1 19 2)] [] zc_X9 DL_1 (tX9_at hl0 ((zi g 19 3 (g.1 19 2)).1 19 2) (zi g 19 3 (g.1 19 2)) hv3) zy_X9_at ⟨w1124, w1125⟩ w1123 dX7_next_129 rfl (Nat.le_of_ble_eq_true rfl) rfl rfl rfl (Nat.le_of_ble_eq_true rfl) rfl ?_
    replace h := zbind h
    obtain ⟨v4, hv4, h⟩ := h
    refine z_csI (pc := 132) (A' := 0) (B' := 0) hG [.int v3] [] (tX7_isDigit hl0 v3 (zi g 19 3 (g.1 19 2)) hv4) zy_X7_isDigit w1134 w1133 dX7_next_132 rfl (Nat.le_of_ble_eq_true rfl) rfl rfl rfl (Nat.le_of_ble_eq_true rfl) rfl ?_
    refine z_if_eq (pc := 135) (tgt := 182) hG dX7_next_135 rfl (fun hc => ?_) (fun hc => ?_)
    · replace h := zif_t hc h
      refine z_aload_n (pc := 182) hG 0 rfl rfl dX7_next_182 ?_
      refine z_geti (pc := 183) hG zc_X7 inX7 DL_19 2 rfl (by decide) rfl w600 dX7_next_183 ?_
      refine z_aload_n (pc := 186) hG 0 rfl rfl dX7_next_186 ?_
      refine z_getr (pc := 187) hG zc_X7 inX7 DL_19 0 rfl (by decide) rfl w598 dX7_next_187 ?_
      refine z_geti (pc := 190) hG zc_X9 inX9 DL_1 1 rfl (by decide) rfl w520 dX7_next_190 ?_
      refine z_icmp_ge (pc := 193) (tgt := 206) hG dX7_next_193 rfl (fun hc => ?_) (fun hc => ?_)
      · replace h := zif_t hc h
        obtain rfl := Option.some.inj h
        exact z_vret (pc := 206) hG rfl hk dX7_next_206
      · replace h := zif_f hc h
        refine z_aload_n (pc := 196) hG 0 rfl rfl dX7_next_196 ?_
        refine z_dup (pc := 197) hG rfl dX7_next_197 ?_
        refine z_geti (pc := 198) hG zc_X7 inX7 DL_19 3 rfl (by decide) rfl w601 dX7_next_198 ?_
        refine z_iconst (pc := 201) hG kc_1 dX7_next_201 ?_
        refine z_iadd (pc := 202) hG dX7_next_202 ?_
        refine z_puti (pc := 203) hG zc_X7 inX7 tyX7 tyX7_ok nmX7 DL_19 3 rfl (by decide) rfl w601 rfl rfl rfl dX7_next_203 ?_
        obtain rfl := Option.some.inj h
        exact z_vret (pc := 206) hG rfl hk dX7_next_206
    · replace h := zif_f hc h
      exact kwX7_next_138 hG hl0  hk (zi g 19 3 (g.1 19 2)) h
  · replace h := zif_f hc h
    exact kwX7_next_77 hG hl0  hk (zi g 19 3 (g.1 19 2)) h
set_option maxHeartbeats 60000 in
theorem kwX7_next_8 {x : zXx} (hG : zG x cX7_next 1 RX7 ((Option.none : Option Jvm.ClassFile.FieldType))) (hl0 : (zl0 x).flags = flags0)  {o : zS} (hk : ztg x = (.inl none, zD, o)) : ∀ s : zS, wh (wX7_next_8 ) s = some o → zK x 1 8 [(0, .ref 19)] [] zD s 0 0 := by
  refine wh_ind (fun s : zS => zK x 1 8 [(0, .ref 19)] [] zD s 0 0) (fun s o h hk2 => ?_)
  replace hk : qX7_next_8 x  o := by
    cases o with
    | inl s => exact hk2
    | inr r => subst hk2; exact hk
  clear hk2
  unfold wX7_next_8 at h
  refine z_aload_n (pc := 8) hG 0 rfl rfl dX7_next_8 ?_
  refine z_geti (pc := 9) hG zc_X7 inX7 DL_19 2 rfl (by decide) rfl w600 dX7_next_9 ?_
  refine z_aload_n (pc := 12) hG 0 rfl rfl dX7_next_12 ?_
  refine z_getr (pc := 13) hG zc_X7 inX7 DL_19 0 rfl (by decide) rfl w598 dX7_next_13 ?_
  refine z_geti (pc := 16) hG zc_X9 inX9 DL_1 1 rfl (by decide) rfl w520 dX7_next_16 ?_
  refine z_icmp_ge (pc := 19) (tgt := 52) hG dX7_next_19 rfl (fun hc => ?_) (fun hc => ?_)
  · replace h := zif_t hc h
    replace h := zex_some h
    obtain ⟨o, h, rfl⟩ := h
    exact kjX7_next_52 hG hl0 s h hk
  · replace h := zif_f hc h
    refine z_aload_n (pc := 22) hG 0 rfl rfl dX7_next_22 ?_
    refine z_getr (pc := 23) hG zc_X7 inX7 DL_19 0 rfl (by decide) rfl w598 dX7_next_23 ?_
    refine z_aload_n (pc := 26) hG 0 rfl rfl dX7_next_26 ?_
    refine z_geti (pc := 27) hG zc_X7 inX7 DL_19 2 rfl (by decide) rfl w600 dX7_next_27 ?_
    replace h := zbind h
    obtain ⟨v9, hv9, h⟩ := h
    refine z_cvI (pc := 30) (A' := 0) (B' := 0) hG [.int (s.1 19 2)] [] zc_X9 DL_1 (tX9_at hl0 (s.1 19 2) s hv9) zy_X9_at ⟨w1124, w1125⟩ w1123 dX7_next_30 rfl (Nat.le_of_ble_eq_true rfl) rfl rfl rfl (Nat.le_of_ble_eq_true rfl) rfl ?_
    replace h := zbind h
    obtain ⟨v10, hv10, h⟩ := h
    refine z_csI (pc := 33) (A' := 0) (B' := 0) hG [.int v9] [] (tX7_isBlank hl0 v9 s hv10) zy_X7_isBlank w1128 w1127 dX7_next_33 rfl (Nat.le_of_ble_eq_true rfl) rfl rfl rfl (Nat.le_of_ble_eq_true rfl) rfl ?_
    refine z_if_eq (pc := 36) (tgt := 52) hG dX7_next_36 rfl (fun hc => ?_) (fun hc => ?_)
    · replace h := zif_t hc h
      replace h := zex_some h
      obtain ⟨o, h, rfl⟩ := h
      exact kjX7_next_52 hG hl0 s h hk
    · replace h := zif_f hc h
      refine z_aload_n (pc := 39) hG 0 rfl rfl dX7_next_39 ?_
      refine z_dup (pc := 40) hG rfl dX7_next_40 ?_
      refine z_geti (pc := 41) hG zc_X7 inX7 DL_19 2 rfl (by decide) rfl w600 dX7_next_41 ?_
      refine z_iconst (pc := 44) hG kc_1 dX7_next_44 ?_
      refine z_iadd (pc := 45) hG dX7_next_45 ?_
      refine z_puti (pc := 46) hG zc_X7 inX7 tyX7 tyX7_ok nmX7 DL_19 2 rfl (by decide) rfl w600 rfl rfl rfl dX7_next_46 ?_
      refine z_goto (pc := 49) (tgt := 8) hG dX7_next_49 rfl ?_
      obtain rfl := Option.some.inj h
      exact hk
set_option maxHeartbeats 60000 in
theorem tX7_next {l : Launch} (hl0 : l.flags = flags0) (g : zS) {r : zS} (h : nX7_next g = some r) : zC l yX7_next cX7_next 1 ((Option.none : Option Jvm.ClassFile.FieldType)) 1 0 0 [.ref 19] zD g (.inl none, zD, r) := by
  refine zC_of hl0 rfl (Nat.le_of_ble_eq_true rfl) (fun x hG hxl hk _ => ?_)
  subst hxl
  show zK x 1 0 [(0, .ref 19)] [] zD g 0 0
  unfold nX7_next at h
  refine z_aload_n (pc := 0) hG 0 rfl rfl dX7_next_0 ?_
  refine z_aload_n (pc := 1) hG 0 rfl rfl dX7_next_1 ?_
  refine z_geti (pc := 2) hG zc_X7 inX7 DL_19 3 rfl (by decide) rfl w601 dX7_next_2 ?_
  refine z_puti (pc := 5) hG zc_X7 inX7 tyX7 tyX7_ok nmX7 DL_19 2 rfl (by decide) rfl w600 rfl rfl rfl dX7_next_5 ?_
  exact kwX7_next_8 hG hl0  hk (zi g 19 2 (g.1 19 3)) h
noncomputable def nJ0_coder_7d493_900 : Option Int32 :=
  if (1 : Int32) = 0 then (some ((1 : Int32))) else (some ((0 : Int32)))
set_option maxHeartbeats 60000 in
theorem tJ0_coder_7d493_900 {l : Launch} (hl0 : l.flags = flags0) (g : zS) {r : Int32} (h : nJ0_coder_7d493_900  = some r) : zC l yJ0_coder_7d493 cJ0_coder_7d493 1 ((Option.some Jvm.ClassFile.FieldType.byte)) 0 0 0 [.ref 900] zD g (.inl (some (.int r)), zD, g) := by
  refine zC_of hl0 rfl (Nat.le_of_ble_eq_true rfl) (fun x hG hxl hk _ => ?_)
  subst hxl
  show zK x 0 0 [(0, .ref 900)] [] zD g 0 0
  unfold nJ0_coder_7d493_900 at h
  refine z_cstr (pc := 0) hG w915 dJ0_coder_7d493_0 ?_
  refine z_if_eq (pc := 3) (tgt := 13) hG dJ0_coder_7d493_3 rfl (fun hc => ?_) (fun hc => ?_)
  · replace h := zif_t hc h
    refine z_iconst (pc := 13) hG kc_1 dJ0_coder_7d493_13 ?_
    obtain rfl := Option.some.inj h
    exact z_iret (pc := 14) hG rfl rfl hk dJ0_coder_7d493_14
  · replace h := zif_f hc h
    refine z_aload_n (pc := 6) hG 0 rfl rfl dJ0_coder_7d493_6 ?_
    refine z_scod (pc := 7) (q := 900) hG rfl w1060 dJ0_coder_7d493_7 ?_
    refine z_goto (pc := 10) (tgt := 14) hG dJ0_coder_7d493_10 rfl ?_
    obtain rfl := Option.some.inj h
    exact z_iret (pc := 14) hG rfl rfl hk dJ0_coder_7d493_14
noncomputable def nJ0_length_8abf5_900 : Option Int32 :=
  (nJ0_coder_7d493_900 ).bind fun v1 => some (((nI (slen.getD (zsj 900) 0)) >>> (v1 &&& 31)))
set_option maxHeartbeats 60000 in
theorem tJ0_length_8abf5_900 {l : Launch} (hl0 : l.flags = flags0) (g : zS) {r : Int32} (h : nJ0_length_8abf5_900  = some r) : zC l yJ0_length_8abf5 cJ0_length_8abf5 1 ((Option.some Jvm.ClassFile.FieldType.int)) 1 0 0 [.ref 900] zD g (.inl (some (.int r)), zD, g) := by
  refine zC_of hl0 rfl (Nat.le_of_ble_eq_true rfl) (fun x hG hxl hk _ => ?_)
  subst hxl
  show zK x 1 0 [(0, .ref 900)] [] zD g 0 0
  unfold nJ0_length_8abf5_900 at h
  refine z_aload_n (pc := 0) hG 0 rfl rfl dJ0_length_8abf5_0 ?_
  refine z_sval (pc := 1) (q := 900) hG rfl w1059 dJ0_length_8abf5_1 ?_
  refine z_slen (pc := 4) (q := 900) hG rfl rfl dJ0_length_8abf5_4 ?_
  refine z_aload_n (pc := 5) hG 0 rfl rfl dJ0_length_8abf5_5 ?_
  replace h := zbind h
  obtain ⟨v1, hv1, h⟩ := h
  refine z_cvSI (pc := 6) (A' := 0) (B' := 0) hG [] [.int (nI (slen.getD (zsj 900) 0))] (rfl : zsq 900 = true) (tJ0_coder_7d493_900 hl0  g hv1) zy_J0_coder_7d493 ⟨w912, w913⟩ w911 dJ0_length_8abf5_6 rfl (Nat.le_of_ble_eq_true rfl) rfl rfl rfl (Nat.le_of_ble_eq_true rfl) rfl ?_
  refine z_ishr (pc := 9) hG dJ0_length_8abf5_9 ?_
  obtain rfl := Option.some.inj h
  exact z_iret (pc := 10) hG rfl rfl hk dJ0_length_8abf5_10
noncomputable def nJ0_isLatin1_aae02_900 : Option Int32 :=
  if (1 : Int32) = 0 then (some ((0 : Int32))) else (if (0 : Int32) = 0 then (some ((1 : Int32))) else (some ((0 : Int32))))
set_option maxHeartbeats 60000 in
theorem tJ0_isLatin1_aae02_900 {l : Launch} (hl0 : l.flags = flags0) (g : zS) {r : Int32} (h : nJ0_isLatin1_aae02_900  = some r) : zC l yJ0_isLatin1_aae02 cJ0_isLatin1_aae02 1 ((Option.some Jvm.ClassFile.FieldType.boolean)) 0 0 0 [.ref 900] zD g (.inl (some (.int r)), zD, g) := by
  refine zC_of hl0 rfl (Nat.le_of_ble_eq_true rfl) (fun x hG hxl hk _ => ?_)
  subst hxl
  show zK x 0 0 [(0, .ref 900)] [] zD g 0 0
  unfold nJ0_isLatin1_aae02_900 at h
  refine z_cstr (pc := 0) hG w915 dJ0_isLatin1_aae02_0 ?_
  refine z_if_eq (pc := 3) (tgt := 17) hG dJ0_isLatin1_aae02_3 rfl (fun hc => ?_) (fun hc => ?_)
  · replace h := zif_t hc h
    refine z_iconst (pc := 17) hG kc_0 dJ0_isLatin1_aae02_17 ?_
    obtain rfl := Option.some.inj h
    exact z_iret (pc := 18) hG rfl rfl hk dJ0_isLatin1_aae02_18
  · replace h := zif_f hc h
    refine z_aload_n (pc := 6) hG 0 rfl rfl dJ0_isLatin1_aae02_6 ?_
    refine z_scod (pc := 7) (q := 900) hG rfl w1060 dJ0_isLatin1_aae02_7 ?_
    refine z_if_ne (pc := 10) (tgt := 17) hG dJ0_isLatin1_aae02_10 rfl (fun hc => ?_) (fun hc => ?_)
    · replace h := zif_f hc h
      refine z_iconst (pc := 17) hG kc_0 dJ0_isLatin1_aae02_17 ?_
      obtain rfl := Option.some.inj h
      exact z_iret (pc := 18) hG rfl rfl hk dJ0_isLatin1_aae02_18
    · replace h := zif_t hc h
      refine z_iconst (pc := 13) hG kc_1 dJ0_isLatin1_aae02_13 ?_
      refine z_goto (pc := 14) (tgt := 18) hG dJ0_isLatin1_aae02_14 rfl ?_
      obtain rfl := Option.some.inj h
      exact z_iret (pc := 18) hG rfl rfl hk dJ0_isLatin1_aae02_18
noncomputable def jJ3_checkIndex_8e157_n_9 (a0 : Int32) (a1 : Int32) : Option Int32 :=
  none
noncomputable def nJ3_checkIndex_8e157_n (a0 : Int32) (a1 : Int32) : Option Int32 :=
  if a0 < 0 then (jJ3_checkIndex_8e157_n_9 a0 a1) else (if a0 < a1 then (some (a0)) else (jJ3_checkIndex_8e157_n_9 a0 a1))
set_option maxHeartbeats 60000 in
theorem kjJ3_checkIndex_8e157_n_9 {x : zXx} (hG : zG x cJ3_checkIndex_8e157 3 RJ3 ((Option.some Jvm.ClassFile.FieldType.int))) (hl0 : (zl0 x).flags = flags0) (a0 : Int32) (a1 : Int32) (g : zS) {o : Int32} (h : jJ3_checkIndex_8e157_n_9 a0 a1 = some o) (hk : ztg x = (.inl (some (.int o)), zD, g)) : zK x 0 9 [(0, .int a0), (1, .int a1), (2, .null)] [] zD g 0 0 := by
  unfold jJ3_checkIndex_8e157_n_9 at h
  cases h
set_option maxHeartbeats 60000 in
theorem tJ3_checkIndex_8e157_n {l : Launch} (hl0 : l.flags = flags0) (a0 : Int32) (a1 : Int32) (g : zS) {r : Int32} (h : nJ3_checkIndex_8e157_n a0 a1 = some r) : zC l yJ3_checkIndex_8e157 cJ3_checkIndex_8e157 3 ((Option.some Jvm.ClassFile.FieldType.int)) 0 0 0 [.int a0, .int a1, .null] zD g (.inl (some (.int r)), zD, g) := by
  refine zC_of hl0 rfl (Nat.le_of_ble_eq_true rfl) (fun x hG hxl hk _ => ?_)
  subst hxl
  show zK x 0 0 [(0, .int a0), (1, .int a1), (2, .null)] [] zD g 0 0
  unfold nJ3_checkIndex_8e157_n at h
  refine z_iload_n (pc := 0) hG 0 rfl rfl dJ3_checkIndex_8e157_0 ?_
  refine z_if_lt (pc := 1) (tgt := 9) hG dJ3_checkIndex_8e157_1 rfl (fun hc => ?_) (fun hc => ?_)
  · replace h := zif_t hc h
    exact kjJ3_checkIndex_8e157_n_9 hG hl0 a0 a1 g h hk
  · replace h := zif_f hc h
    refine z_iload_n (pc := 4) hG 0 rfl rfl dJ3_checkIndex_8e157_4 ?_
    refine z_iload_n (pc := 5) hG 1 rfl rfl dJ3_checkIndex_8e157_5 ?_
    refine z_icmp_lt (pc := 6) (tgt := 16) hG dJ3_checkIndex_8e157_6 rfl (fun hc => ?_) (fun hc => ?_)
    · replace h := zif_t hc h
      refine z_iload_n (pc := 16) hG 0 rfl rfl dJ3_checkIndex_8e157_16 ?_
      obtain rfl := Option.some.inj h
      exact z_iret (pc := 17) hG rfl rfl hk dJ3_checkIndex_8e157_17
    · replace h := zif_f hc h
      exact kjJ3_checkIndex_8e157_n_9 hG hl0 a0 a1 g h hk
noncomputable def jJ3_checkIndex_8e157_r_9 (a0 : Int32) (a1 : Int32) : Option Int32 :=
  none
noncomputable def nJ3_checkIndex_8e157_r (a0 : Int32) (a1 : Int32) : Option Int32 :=
  if a0 < 0 then (jJ3_checkIndex_8e157_r_9 a0 a1) else (if a0 < a1 then (some (a0)) else (jJ3_checkIndex_8e157_r_9 a0 a1))
set_option maxHeartbeats 60000 in
theorem kjJ3_checkIndex_8e157_r_9 {x : zXx} (hG : zG x cJ3_checkIndex_8e157 3 RJ3 ((Option.some Jvm.ClassFile.FieldType.int))) (hl0 : (zl0 x).flags = flags0) (a0 : Int32) (a1 : Int32) (g : zS) {o : Int32} (h : jJ3_checkIndex_8e157_r_9 a0 a1 = some o) (hk : ztg x = (.inl (some (.int o)), zD, g)) : zK x 0 9 [(0, .int a0), (1, .int a1), (2, .ref 940)] [] zD g 0 0 := by
  unfold jJ3_checkIndex_8e157_r_9 at h
  cases h
set_option maxHeartbeats 60000 in
theorem tJ3_checkIndex_8e157_r {l : Launch} (hl0 : l.flags = flags0) (a0 : Int32) (a1 : Int32) (g : zS) {r : Int32} (h : nJ3_checkIndex_8e157_r a0 a1 = some r) : zC l yJ3_checkIndex_8e157 cJ3_checkIndex_8e157 3 ((Option.some Jvm.ClassFile.FieldType.int)) 0 0 0 [.int a0, .int a1, .ref 940] zD g (.inl (some (.int r)), zD, g) := by
  refine zC_of hl0 rfl (Nat.le_of_ble_eq_true rfl) (fun x hG hxl hk _ => ?_)
  subst hxl
  show zK x 0 0 [(0, .int a0), (1, .int a1), (2, .ref 940)] [] zD g 0 0
  unfold nJ3_checkIndex_8e157_r at h
  refine z_iload_n (pc := 0) hG 0 rfl rfl dJ3_checkIndex_8e157_0 ?_
  refine z_if_lt (pc := 1) (tgt := 9) hG dJ3_checkIndex_8e157_1 rfl (fun hc => ?_) (fun hc => ?_)
  · replace h := zif_t hc h
    exact kjJ3_checkIndex_8e157_r_9 hG hl0 a0 a1 g h hk
  · replace h := zif_f hc h
    refine z_iload_n (pc := 4) hG 0 rfl rfl dJ3_checkIndex_8e157_4 ?_
    refine z_iload_n (pc := 5) hG 1 rfl rfl dJ3_checkIndex_8e157_5 ?_
    refine z_icmp_lt (pc := 6) (tgt := 16) hG dJ3_checkIndex_8e157_6 rfl (fun hc => ?_) (fun hc => ?_)
    · replace h := zif_t hc h
      refine z_iload_n (pc := 16) hG 0 rfl rfl dJ3_checkIndex_8e157_16 ?_
      obtain rfl := Option.some.inj h
      exact z_iret (pc := 17) hG rfl rfl hk dJ3_checkIndex_8e157_17
    · replace h := zif_f hc h
      exact kjJ3_checkIndex_8e157_r_9 hG hl0 a0 a1 g h hk
noncomputable def nJ0_checkIndex_df160 (a0 : Int32) (a1 : Int32) : Option Unit :=
  (nJ3_checkIndex_8e157_n a0 a1).bind fun v1 => some (())
set_option maxHeartbeats 60000 in
theorem tJ0_checkIndex_df160 {l : Launch} (hl0 : l.flags = flags0) (a0 : Int32) (a1 : Int32) (g : zS) {r : Unit} (h : nJ0_checkIndex_df160 a0 a1 = some r) : zC l yJ0_checkIndex_df160 cJ0_checkIndex_df160 2 ((Option.none : Option Jvm.ClassFile.FieldType)) 1 0 0 [.int a0, .int a1] zD g (.inl none, zD, g) := by
  refine zC_of hl0 rfl (Nat.le_of_ble_eq_true rfl) (fun x hG hxl hk _ => ?_)
  subst hxl
  show zK x 1 0 [(0, .int a0), (1, .int a1)] [] zD g 0 0
  unfold nJ0_checkIndex_df160 at h
  refine z_iload_n (pc := 0) hG 0 rfl rfl dJ0_checkIndex_df160_0 ?_
  refine z_iload_n (pc := 1) hG 1 rfl rfl dJ0_checkIndex_df160_1 ?_
  refine z_fmt (pc := 2) hG w893 dJ0_checkIndex_df160_2 ?_ ?_
  · replace h := zbind h
    obtain ⟨v1, hv1, h⟩ := h
    refine z_csI (pc := 5) (A' := 0) (B' := 0) hG [.int a0, .int a1, .null] [] (tJ3_checkIndex_8e157_n hl0 a0 a1 g hv1) zy_J3_checkIndex_8e157 w970 w969 dJ0_checkIndex_df160_5 rfl (Nat.le_of_ble_eq_true rfl) rfl rfl rfl (Nat.le_of_ble_eq_true rfl) rfl ?_
    refine z_pop (pc := 8) hG rfl dJ0_checkIndex_df160_8 ?_
    obtain rfl := Option.some.inj h
    exact z_vret (pc := 9) hG rfl hk dJ0_checkIndex_df160_9
  · replace h := zbind h
    obtain ⟨v1, hv1, h⟩ := h
    refine z_csI (pc := 5) (A' := 0) (B' := 0) hG [.int a0, .int a1, .ref 940] [] (tJ3_checkIndex_8e157_r hl0 a0 a1 g hv1) zy_J3_checkIndex_8e157 w970 w969 dJ0_checkIndex_df160_5 rfl (Nat.le_of_ble_eq_true rfl) rfl rfl rfl (Nat.le_of_ble_eq_true rfl) rfl ?_
    refine z_pop (pc := 8) hG rfl dJ0_checkIndex_df160_8 ?_
    obtain rfl := Option.some.inj h
    exact z_vret (pc := 9) hG rfl hk dJ0_checkIndex_df160_9
noncomputable def nJ1_charAt_3b067_920 (a1 : Int32) : Option Int32 :=
  (nJ0_checkIndex_df160 a1 (nI (slen.getD (zsj 900) 0))).bind fun v1 => zchk (zin a1 (slen.getD (zsj 900) 0)) (zchk (znc ((((sbyt.getD (zsj 900) []).getD a1.toNatClampNeg 0) &&& (255 : Int32)).toUInt32 % 65536).toInt32) (some (((((sbyt.getD (zsj 900) []).getD a1.toNatClampNeg 0) &&& (255 : Int32)).toUInt32 % 65536).toInt32)))
set_option maxHeartbeats 60000 in
theorem tJ1_charAt_3b067_920 {l : Launch} (hl0 : l.flags = flags0) (a1 : Int32) (g : zS) {r : Int32} (h : nJ1_charAt_3b067_920 a1 = some r) : zC l yJ1_charAt_3b067 cJ1_charAt_3b067 2 ((Option.some Jvm.ClassFile.FieldType.char)) 2 0 0 [.ref 920, .int a1] zD g (.inl (some (.int r)), zD, g) := by
  refine zC_of hl0 rfl (Nat.le_of_ble_eq_true rfl) (fun x hG hxl hk _ => ?_)
  subst hxl
  show zK x 2 0 [(0, .ref 920), (1, .int a1)] [] zD g 0 0
  unfold nJ1_charAt_3b067_920 at h
  refine z_iload_n (pc := 0) hG 1 rfl rfl dJ1_charAt_3b067_0 ?_
  refine z_aload_n (pc := 1) hG 0 rfl rfl dJ1_charAt_3b067_1 ?_
  refine z_slen (pc := 2) (q := 900) hG rfl rfl dJ1_charAt_3b067_2 ?_
  replace h := zbind h
  obtain ⟨v1, hv1, h⟩ := h
  refine z_csV (pc := 3) (A' := 0) (B' := 0) hG [.int a1, .int (nI (slen.getD (zsj 900) 0))] [] (tJ0_checkIndex_df160 hl0 a1 (nI (slen.getD (zsj 900) 0)) g hv1) zy_J0_checkIndex_df160 w967 w1091 dJ1_charAt_3b067_3 rfl (Nat.le_of_ble_eq_true rfl) rfl rfl rfl (Nat.le_of_ble_eq_true rfl) rfl ?_
  refine z_aload_n (pc := 6) hG 0 rfl rfl dJ1_charAt_3b067_6 ?_
  refine z_iload_n (pc := 7) hG 1 rfl rfl dJ1_charAt_3b067_7 ?_
  replace h := zchk_some h
  obtain ⟨hc, h⟩ := h
  refine z_sbyt (pc := 8) (q := 900) hG rfl rfl (zin_in hc) dJ1_charAt_3b067_8 ?_
  refine z_sipush (pc := 9) hG ks_255 dJ1_charAt_3b067_9 ?_
  refine z_iand (pc := 12) hG dJ1_charAt_3b067_12 ?_
  refine z_i2c (pc := 13) hG dJ1_charAt_3b067_13 ?_
  replace h := zchk_some h
  obtain ⟨hc, h⟩ := h
  obtain rfl := Option.some.inj h
  exact z_iret (pc := 14) hG rfl (znc_n hc) hk dJ1_charAt_3b067_14
noncomputable def nJ0_charAt_5068e_900 (a1 : Int32) : Option Int32 :=
  (nJ0_isLatin1_aae02_900 ).bind fun v1 => if v1 = 0 then (none) else ((nJ1_charAt_3b067_920 a1).bind fun v2 => zchk (znc v2) (some (v2)))
set_option maxHeartbeats 60000 in
theorem tJ0_charAt_5068e_900 {l : Launch} (hl0 : l.flags = flags0) (a1 : Int32) (g : zS) {r : Int32} (h : nJ0_charAt_5068e_900 a1 = some r) : zC l yJ0_charAt_5068e cJ0_charAt_5068e 2 ((Option.some Jvm.ClassFile.FieldType.char)) 3 0 0 [.ref 900, .int a1] zD g (.inl (some (.int r)), zD, g) := by
  refine zC_of hl0 rfl (Nat.le_of_ble_eq_true rfl) (fun x hG hxl hk _ => ?_)
  subst hxl
  show zK x 3 0 [(0, .ref 900), (1, .int a1)] [] zD g 0 0
  unfold nJ0_charAt_5068e_900 at h
  refine z_aload_n (pc := 0) hG 0 rfl rfl dJ0_charAt_5068e_0 ?_
  replace h := zbind h
  obtain ⟨v1, hv1, h⟩ := h
  refine z_cvSI (pc := 1) (A' := 0) (B' := 0) hG [] [] (rfl : zsq 900 = true) (tJ0_isLatin1_aae02_900 hl0  g hv1) zy_J0_isLatin1_aae02 ⟨w1085, w1086⟩ w1084 dJ0_charAt_5068e_1 rfl (Nat.le_of_ble_eq_true rfl) rfl rfl rfl (Nat.le_of_ble_eq_true rfl) rfl ?_
  refine z_if_eq (pc := 4) (tgt := 16) hG dJ0_charAt_5068e_4 rfl (fun hc => ?_) (fun hc => ?_)
  · replace h := zif_t hc h
    cases h
  · replace h := zif_f hc h
    refine z_aload_n (pc := 7) hG 0 rfl rfl dJ0_charAt_5068e_7 ?_
    refine z_sval (pc := 8) (q := 900) hG rfl w1059 dJ0_charAt_5068e_8 ?_
    refine z_iload_n (pc := 11) hG 1 rfl rfl dJ0_charAt_5068e_11 ?_
    replace h := zbind h
    obtain ⟨v2, hv2, h⟩ := h
    refine z_csI (pc := 12) (A' := 0) (B' := 0) hG [.ref 920, .int a1] [] (tJ1_charAt_3b067_920 hl0 a1 g hv2) zy_J1_charAt_3b067 w1089 w1088 dJ0_charAt_5068e_12 rfl (Nat.le_of_ble_eq_true rfl) rfl rfl rfl (Nat.le_of_ble_eq_true rfl) rfl ?_
    replace h := zchk_some h
    obtain ⟨hc, h⟩ := h
    obtain rfl := Option.some.inj h
    exact z_iret (pc := 15) hG rfl (znc_n hc) hk dJ0_charAt_5068e_15
noncomputable def wX7_isWord_900_22 (a2 : Int32) (g : zS) (s : Int32) : Option (Int32 ⊕ Int32) :=
  if a2 ≤ s then (zex (some ((1 : Int32)))) else ((nX9_at ((g.1 19 2) + s) g).bind fun v2 => (nJ0_charAt_5068e_900 s).bind fun v3 => if v2 = v3 then (some (.inl (s + (1 : Int32)))) else (zex (some ((0 : Int32)))))
noncomputable def nX7_isWord_900 (g : zS) : Option Int32 :=
  (nJ0_length_8abf5_900 ).bind fun v1 => if ((g.1 19 3) - (g.1 19 2)) = v1 then (wh (wX7_isWord_900_22 v1 g) (0 : Int32)) else (some ((0 : Int32)))
def qX7_isWord_900_22 (x : zXx) (a2 : Int32) (g : zS) (o : Int32 ⊕ Int32) : Prop := match o with
  | .inl s => zK x 4 22 [(0, .ref 19), (1, .ref 900), (2, .int a2), (3, .int s)] [] zD g 0 0
  | .inr r => ztg x = (.inl (some (.int r)), zD, g)
set_option maxHeartbeats 60000 in
theorem kwX7_isWord_900_22 {x : zXx} (hG : zG x cX7_isWord 4 RX7 ((Option.some Jvm.ClassFile.FieldType.boolean))) (hl0 : (zl0 x).flags = flags0) (a2 : Int32) (g : zS) {o : Int32} (hk : ztg x = (.inl (some (.int o)), zD, g)) : ∀ s : Int32, wh (wX7_isWord_900_22 a2 g) s = some o → zK x 4 22 [(0, .ref 19), (1, .ref 900), (2, .int a2), (3, .int s)] [] zD g 0 0 := by
  refine wh_ind (fun s : Int32 => zK x 4 22 [(0, .ref 19), (1, .ref 900), (2, .int a2), (3, .int s)] [] zD g 0 0) (fun s o h hk2 => ?_)
  replace hk : qX7_isWord_900_22 x a2 g o := by
    cases o with
    | inl s => exact hk2
    | inr r => subst hk2; exact hk
  clear hk2
  unfold wX7_isWord_900_22 at h
  refine z_iload_n (pc := 22) hG 3 rfl rfl dX7_isWord_22 ?_
  refine z_iload_n (pc := 23) hG 2 rfl rfl dX7_isWord_23 ?_
  refine z_icmp_ge (pc := 24) (tgt := 56) hG dX7_isWord_24 rfl (fun hc => ?_) (fun hc => ?_)
  · replace h := zif_t hc h
    replace h := zex_some h
    obtain ⟨o, h, rfl⟩ := h
    refine z_iconst (pc := 56) hG kc_1 dX7_isWord_56 ?_
    obtain rfl := Option.some.inj h
    exact z_iret (pc := 57) hG rfl rfl hk dX7_isWord_57
  · replace h := zif_f hc h
    refine z_aload_n (pc := 27) hG 0 rfl rfl dX7_isWord_27 ?_
    refine z_getr (pc := 28) hG zc_X7 inX7 DL_19 0 rfl (by decide) rfl w598 dX7_isWord_28 ?_
    refine z_aload_n (pc := 31) hG 0 rfl rfl dX7_isWord_31 ?_
    refine z_geti (pc := 32) hG zc_X7 inX7 DL_19 2 rfl (by decide) rfl w600 dX7_isWord_32 ?_
    refine z_iload_n (pc := 35) hG 3 rfl rfl dX7_isWord_35 ?_
    refine z_iadd (pc := 36) hG dX7_isWord_36 ?_
    replace h := zbind h
    obtain ⟨v2, hv2, h⟩ := h
    refine z_cvI (pc := 37) (A' := 0) (B' := 0) hG [.int ((g.1 19 2) + s)] [] zc_X9 DL_1 (tX9_at hl0 ((g.1 19 2) + s) g hv2) zy_X9_at ⟨w1124, w1125⟩ w1123 dX7_isWord_37 rfl (Nat.le_of_ble_eq_true rfl) rfl rfl rfl (Nat.le_of_ble_eq_true rfl) rfl ?_
    refine z_aload_n (pc := 40) hG 1 rfl rfl dX7_isWord_40 ?_
    refine z_iload_n (pc := 41) hG 3 rfl rfl dX7_isWord_41 ?_
    replace h := zbind h
    obtain ⟨v3, hv3, h⟩ := h
    refine z_cvSI (pc := 42) (A' := 0) (B' := 0) hG [.int s] [.int v2] (rfl : zsq 900 = true) (tJ0_charAt_5068e_900 hl0 s g hv3) zy_J0_charAt_5068e ⟨w1081, w1082⟩ w1146 dX7_isWord_42 rfl (Nat.le_of_ble_eq_true rfl) rfl rfl rfl (Nat.le_of_ble_eq_true rfl) rfl ?_
    refine z_icmp_eq (pc := 45) (tgt := 50) hG dX7_isWord_45 rfl (fun hc => ?_) (fun hc => ?_)
    · replace h := zif_t hc h
      refine z_iinc (pc := 50) (ls' := [(3, .int (s + (1 : Int32))), (0, .ref 19), (1, .ref 900), (2, .int a2)]) hG 3 rfl [0, 1, 2, 3] (ki_1 _) (by decide) rfl dX7_isWord_50 ?_
      refine z_goto (pc := 53) (tgt := 22) hG dX7_isWord_53 rfl ?_
      obtain rfl := Option.some.inj h
      refine z_sub (ls' := [(0, .ref 19), (1, .ref 900), (2, .int a2), (3, .int (s + (1 : Int32)))]) [1, 2, 3, 0] rfl ?_
      exact hk
    · replace h := zif_f hc h
      replace h := zex_some h
      obtain ⟨o, h, rfl⟩ := h
      refine z_iconst (pc := 48) hG kc_0 dX7_isWord_48 ?_
      obtain rfl := Option.some.inj h
      exact z_iret (pc := 49) hG rfl rfl hk dX7_isWord_49
set_option maxHeartbeats 60000 in
theorem tX7_isWord_900 {l : Launch} (hl0 : l.flags = flags0) (g : zS) {r : Int32} (h : nX7_isWord_900 g = some r) : zC l yX7_isWord cX7_isWord 4 ((Option.some Jvm.ClassFile.FieldType.boolean)) 4 0 0 [.ref 19, .ref 900] zD g (.inl (some (.int r)), zD, g) := by
  refine zC_of hl0 rfl (Nat.le_of_ble_eq_true rfl) (fun x hG hxl hk _ => ?_)
  subst hxl
  show zK x 4 0 [(0, .ref 19), (1, .ref 900)] [] zD g 0 0
  unfold nX7_isWord_900 at h
  refine z_aload_n (pc := 0) hG 1 rfl rfl dX7_isWord_0 ?_
  replace h := zbind h
  obtain ⟨v1, hv1, h⟩ := h
  refine z_cvSI (pc := 1) (A' := 0) (B' := 0) hG [] [] (rfl : zsq 900 = true) (tJ0_length_8abf5_900 hl0  g hv1) zy_J0_length_8abf5 ⟨w908, w909⟩ w1145 dX7_isWord_1 rfl (Nat.le_of_ble_eq_true rfl) rfl rfl rfl (Nat.le_of_ble_eq_true rfl) rfl ?_
  refine z_istore_n (pc := 4) (ls' := [(2, .int v1), (0, .ref 19), (1, .ref 900)]) hG [0, 1, 2] rfl (by decide) rfl dX7_isWord_4 ?_
  refine z_aload_n (pc := 5) hG 1 rfl rfl dX7_isWord_5 ?_
  refine z_geti (pc := 6) hG zc_X7 inX7 DL_19 3 rfl (by decide) rfl w601 dX7_isWord_6 ?_
  refine z_aload_n (pc := 9) hG 1 rfl rfl dX7_isWord_9 ?_
  refine z_geti (pc := 10) hG zc_X7 inX7 DL_19 2 rfl (by decide) rfl w600 dX7_isWord_10 ?_
  refine z_isub (pc := 13) hG dX7_isWord_13 ?_
  refine z_iload_n (pc := 14) hG 0 rfl rfl dX7_isWord_14 ?_
  refine z_icmp_eq (pc := 15) (tgt := 20) hG dX7_isWord_15 rfl (fun hc => ?_) (fun hc => ?_)
  · replace h := zif_t hc h
    refine z_iconst (pc := 20) hG kc_0 dX7_isWord_20 ?_
    refine z_istore_n (pc := 21) (ls' := [(3, .int (0 : Int32)), (2, .int v1), (0, .ref 19), (1, .ref 900)]) hG [0, 1, 2, 3] rfl (by decide) rfl dX7_isWord_21 ?_
    refine z_sub (ls' := [(0, .ref 19), (1, .ref 900), (2, .int v1), (3, .int (0 : Int32))]) [2, 3, 1, 0] rfl ?_
    exact kwX7_isWord_900_22 hG hl0 v1 g hk (0 : Int32) h
  · replace h := zif_f hc h
    refine z_iconst (pc := 18) hG kc_0 dX7_isWord_18 ?_
    obtain rfl := Option.some.inj h
    exact z_iret (pc := 19) hG rfl rfl hk dX7_isWord_19
noncomputable def nJ0_coder_7d493_904 : Option Int32 :=
  if (1 : Int32) = 0 then (some ((1 : Int32))) else (some ((0 : Int32)))
set_option maxHeartbeats 60000 in
theorem tJ0_coder_7d493_904 {l : Launch} (hl0 : l.flags = flags0) (g : zS) {r : Int32} (h : nJ0_coder_7d493_904  = some r) : zC l yJ0_coder_7d493 cJ0_coder_7d493 1 ((Option.some Jvm.ClassFile.FieldType.byte)) 0 0 0 [.ref 904] zD g (.inl (some (.int r)), zD, g) := by
  refine zC_of hl0 rfl (Nat.le_of_ble_eq_true rfl) (fun x hG hxl hk _ => ?_)
  subst hxl
  show zK x 0 0 [(0, .ref 904)] [] zD g 0 0
  unfold nJ0_coder_7d493_904 at h
  refine z_cstr (pc := 0) hG w915 dJ0_coder_7d493_0 ?_
  refine z_if_eq (pc := 3) (tgt := 13) hG dJ0_coder_7d493_3 rfl (fun hc => ?_) (fun hc => ?_)
  · replace h := zif_t hc h
    refine z_iconst (pc := 13) hG kc_1 dJ0_coder_7d493_13 ?_
    obtain rfl := Option.some.inj h
    exact z_iret (pc := 14) hG rfl rfl hk dJ0_coder_7d493_14
  · replace h := zif_f hc h
    refine z_aload_n (pc := 6) hG 0 rfl rfl dJ0_coder_7d493_6 ?_
    refine z_scod (pc := 7) (q := 904) hG rfl w1060 dJ0_coder_7d493_7 ?_
    refine z_goto (pc := 10) (tgt := 14) hG dJ0_coder_7d493_10 rfl ?_
    obtain rfl := Option.some.inj h
    exact z_iret (pc := 14) hG rfl rfl hk dJ0_coder_7d493_14
noncomputable def nJ0_length_8abf5_904 : Option Int32 :=
  (nJ0_coder_7d493_904 ).bind fun v1 => some (((nI (slen.getD (zsj 904) 0)) >>> (v1 &&& 31)))
set_option maxHeartbeats 60000 in
theorem tJ0_length_8abf5_904 {l : Launch} (hl0 : l.flags = flags0) (g : zS) {r : Int32} (h : nJ0_length_8abf5_904  = some r) : zC l yJ0_length_8abf5 cJ0_length_8abf5 1 ((Option.some Jvm.ClassFile.FieldType.int)) 1 0 0 [.ref 904] zD g (.inl (some (.int r)), zD, g) := by
  refine zC_of hl0 rfl (Nat.le_of_ble_eq_true rfl) (fun x hG hxl hk _ => ?_)
  subst hxl
  show zK x 1 0 [(0, .ref 904)] [] zD g 0 0
  unfold nJ0_length_8abf5_904 at h
  refine z_aload_n (pc := 0) hG 0 rfl rfl dJ0_length_8abf5_0 ?_
  refine z_sval (pc := 1) (q := 904) hG rfl w1059 dJ0_length_8abf5_1 ?_
  refine z_slen (pc := 4) (q := 904) hG rfl rfl dJ0_length_8abf5_4 ?_
  refine z_aload_n (pc := 5) hG 0 rfl rfl dJ0_length_8abf5_5 ?_
  replace h := zbind h
  obtain ⟨v1, hv1, h⟩ := h
  refine z_cvSI (pc := 6) (A' := 0) (B' := 0) hG [] [.int (nI (slen.getD (zsj 904) 0))] (rfl : zsq 904 = true) (tJ0_coder_7d493_904 hl0  g hv1) zy_J0_coder_7d493 ⟨w912, w913⟩ w911 dJ0_length_8abf5_6 rfl (Nat.le_of_ble_eq_true rfl) rfl rfl rfl (Nat.le_of_ble_eq_true rfl) rfl ?_
  refine z_ishr (pc := 9) hG dJ0_length_8abf5_9 ?_
  obtain rfl := Option.some.inj h
  exact z_iret (pc := 10) hG rfl rfl hk dJ0_length_8abf5_10
noncomputable def nJ0_isLatin1_aae02_904 : Option Int32 :=
  if (1 : Int32) = 0 then (some ((0 : Int32))) else (if (0 : Int32) = 0 then (some ((1 : Int32))) else (some ((0 : Int32))))
set_option maxHeartbeats 60000 in
theorem tJ0_isLatin1_aae02_904 {l : Launch} (hl0 : l.flags = flags0) (g : zS) {r : Int32} (h : nJ0_isLatin1_aae02_904  = some r) : zC l yJ0_isLatin1_aae02 cJ0_isLatin1_aae02 1 ((Option.some Jvm.ClassFile.FieldType.boolean)) 0 0 0 [.ref 904] zD g (.inl (some (.int r)), zD, g) := by
  refine zC_of hl0 rfl (Nat.le_of_ble_eq_true rfl) (fun x hG hxl hk _ => ?_)
  subst hxl
  show zK x 0 0 [(0, .ref 904)] [] zD g 0 0
  unfold nJ0_isLatin1_aae02_904 at h
  refine z_cstr (pc := 0) hG w915 dJ0_isLatin1_aae02_0 ?_
  refine z_if_eq (pc := 3) (tgt := 17) hG dJ0_isLatin1_aae02_3 rfl (fun hc => ?_) (fun hc => ?_)
  · replace h := zif_t hc h
    refine z_iconst (pc := 17) hG kc_0 dJ0_isLatin1_aae02_17 ?_
    obtain rfl := Option.some.inj h
    exact z_iret (pc := 18) hG rfl rfl hk dJ0_isLatin1_aae02_18
  · replace h := zif_f hc h
    refine z_aload_n (pc := 6) hG 0 rfl rfl dJ0_isLatin1_aae02_6 ?_
    refine z_scod (pc := 7) (q := 904) hG rfl w1060 dJ0_isLatin1_aae02_7 ?_
    refine z_if_ne (pc := 10) (tgt := 17) hG dJ0_isLatin1_aae02_10 rfl (fun hc => ?_) (fun hc => ?_)
    · replace h := zif_f hc h
      refine z_iconst (pc := 17) hG kc_0 dJ0_isLatin1_aae02_17 ?_
      obtain rfl := Option.some.inj h
      exact z_iret (pc := 18) hG rfl rfl hk dJ0_isLatin1_aae02_18
    · replace h := zif_t hc h
      refine z_iconst (pc := 13) hG kc_1 dJ0_isLatin1_aae02_13 ?_
      refine z_goto (pc := 14) (tgt := 18) hG dJ0_isLatin1_aae02_14 rfl ?_
      obtain rfl := Option.some.inj h
      exact z_iret (pc := 18) hG rfl rfl hk dJ0_isLatin1_aae02_18
noncomputable def nJ1_charAt_3b067_924 (a1 : Int32) : Option Int32 :=
  (nJ0_checkIndex_df160 a1 (nI (slen.getD (zsj 904) 0))).bind fun v1 => zchk (zin a1 (slen.getD (zsj 904) 0)) (zchk (znc ((((sbyt.getD (zsj 904) []).getD a1.toNatClampNeg 0) &&& (255 : Int32)).toUInt32 % 65536).toInt32) (some (((((sbyt.getD (zsj 904) []).getD a1.toNatClampNeg 0) &&& (255 : Int32)).toUInt32 % 65536).toInt32)))
set_option maxHeartbeats 60000 in
theorem tJ1_charAt_3b067_924 {l : Launch} (hl0 : l.flags = flags0) (a1 : Int32) (g : zS) {r : Int32} (h : nJ1_charAt_3b067_924 a1 = some r) : zC l yJ1_charAt_3b067 cJ1_charAt_3b067 2 ((Option.some Jvm.ClassFile.FieldType.char)) 2 0 0 [.ref 924, .int a1] zD g (.inl (some (.int r)), zD, g) := by
  refine zC_of hl0 rfl (Nat.le_of_ble_eq_true rfl) (fun x hG hxl hk _ => ?_)
  subst hxl
  show zK x 2 0 [(0, .ref 924), (1, .int a1)] [] zD g 0 0
  unfold nJ1_charAt_3b067_924 at h
  refine z_iload_n (pc := 0) hG 1 rfl rfl dJ1_charAt_3b067_0 ?_
  refine z_aload_n (pc := 1) hG 0 rfl rfl dJ1_charAt_3b067_1 ?_
  refine z_slen (pc := 2) (q := 904) hG rfl rfl dJ1_charAt_3b067_2 ?_
  replace h := zbind h
  obtain ⟨v1, hv1, h⟩ := h
  refine z_csV (pc := 3) (A' := 0) (B' := 0) hG [.int a1, .int (nI (slen.getD (zsj 904) 0))] [] (tJ0_checkIndex_df160 hl0 a1 (nI (slen.getD (zsj 904) 0)) g hv1) zy_J0_checkIndex_df160 w967 w1091 dJ1_charAt_3b067_3 rfl (Nat.le_of_ble_eq_true rfl) rfl rfl rfl (Nat.le_of_ble_eq_true rfl) rfl ?_
  refine z_aload_n (pc := 6) hG 0 rfl rfl dJ1_charAt_3b067_6 ?_
  refine z_iload_n (pc := 7) hG 1 rfl rfl dJ1_charAt_3b067_7 ?_
  replace h := zchk_some h
  obtain ⟨hc, h⟩ := h
  refine z_sbyt (pc := 8) (q := 904) hG rfl rfl (zin_in hc) dJ1_charAt_3b067_8 ?_
  refine z_sipush (pc := 9) hG ks_255 dJ1_charAt_3b067_9 ?_
  refine z_iand (pc := 12) hG dJ1_charAt_3b067_12 ?_
  refine z_i2c (pc := 13) hG dJ1_charAt_3b067_13 ?_
  replace h := zchk_some h
  obtain ⟨hc, h⟩ := h
  obtain rfl := Option.some.inj h
  exact z_iret (pc := 14) hG rfl (znc_n hc) hk dJ1_charAt_3b067_14
noncomputable def nJ0_charAt_5068e_904 (a1 : Int32) : Option Int32 :=
  (nJ0_isLatin1_aae02_904 ).bind fun v1 => if v1 = 0 then (none) else ((nJ1_charAt_3b067_924 a1).bind fun v2 => zchk (znc v2) (some (v2)))
set_option maxHeartbeats 60000 in
theorem tJ0_charAt_5068e_904 {l : Launch} (hl0 : l.flags = flags0) (a1 : Int32) (g : zS) {r : Int32} (h : nJ0_charAt_5068e_904 a1 = some r) : zC l yJ0_charAt_5068e cJ0_charAt_5068e 2 ((Option.some Jvm.ClassFile.FieldType.char)) 3 0 0 [.ref 904, .int a1] zD g (.inl (some (.int r)), zD, g) := by
  refine zC_of hl0 rfl (Nat.le_of_ble_eq_true rfl) (fun x hG hxl hk _ => ?_)
  subst hxl
  show zK x 3 0 [(0, .ref 904), (1, .int a1)] [] zD g 0 0
  unfold nJ0_charAt_5068e_904 at h
  refine z_aload_n (pc := 0) hG 0 rfl rfl dJ0_charAt_5068e_0 ?_
  replace h := zbind h
  obtain ⟨v1, hv1, h⟩ := h
  refine z_cvSI (pc := 1) (A' := 0) (B' := 0) hG [] [] (rfl : zsq 904 = true) (tJ0_isLatin1_aae02_904 hl0  g hv1) zy_J0_isLatin1_aae02 ⟨w1085, w1086⟩ w1084 dJ0_charAt_5068e_1 rfl (Nat.le_of_ble_eq_true rfl) rfl rfl rfl (Nat.le_of_ble_eq_true rfl) rfl ?_
  refine z_if_eq (pc := 4) (tgt := 16) hG dJ0_charAt_5068e_4 rfl (fun hc => ?_) (fun hc => ?_)
  · replace h := zif_t hc h
    cases h
  · replace h := zif_f hc h
    refine z_aload_n (pc := 7) hG 0 rfl rfl dJ0_charAt_5068e_7 ?_
    refine z_sval (pc := 8) (q := 904) hG rfl w1059 dJ0_charAt_5068e_8 ?_
    refine z_iload_n (pc := 11) hG 1 rfl rfl dJ0_charAt_5068e_11 ?_
    replace h := zbind h
    obtain ⟨v2, hv2, h⟩ := h
    refine z_csI (pc := 12) (A' := 0) (B' := 0) hG [.ref 924, .int a1] [] (tJ1_charAt_3b067_924 hl0 a1 g hv2) zy_J1_charAt_3b067 w1089 w1088 dJ0_charAt_5068e_12 rfl (Nat.le_of_ble_eq_true rfl) rfl rfl rfl (Nat.le_of_ble_eq_true rfl) rfl ?_
    replace h := zchk_some h
    obtain ⟨hc, h⟩ := h
    obtain rfl := Option.some.inj h
    exact z_iret (pc := 15) hG rfl (znc_n hc) hk dJ0_charAt_5068e_15
noncomputable def wX7_isWord_904_22 (a2 : Int32) (g : zS) (s : Int32) : Option (Int32 ⊕ Int32) :=
  if a2 ≤ s then (zex (some ((1 : Int32)))) else ((nX9_at ((g.1 19 2) + s) g).bind fun v2 => (nJ0_charAt_5068e_904 s).bind fun v3 => if v2 = v3 then (some (.inl (s + (1 : Int32)))) else (zex (some ((0 : Int32)))))
noncomputable def nX7_isWord_904 (g : zS) : Option Int32 :=
  (nJ0_length_8abf5_904 ).bind fun v1 => if ((g.1 19 3) - (g.1 19 2)) = v1 then (wh (wX7_isWord_904_22 v1 g) (0 : Int32)) else (some ((0 : Int32)))
def qX7_isWord_904_22 (x : zXx) (a2 : Int32) (g : zS) (o : Int32 ⊕ Int32) : Prop := match o with
  | .inl s => zK x 4 22 [(0, .ref 19), (1, .ref 904), (2, .int a2), (3, .int s)] [] zD g 0 0
  | .inr r => ztg x = (.inl (some (.int r)), zD, g)
set_option maxHeartbeats 60000 in
theorem kwX7_isWord_904_22 {x : zXx} (hG : zG x cX7_isWord 4 RX7 ((Option.some Jvm.ClassFile.FieldType.boolean))) (hl0 : (zl0 x).flags = flags0) (a2 : Int32) (g : zS) {o : Int32} (hk : ztg x = (.inl (some (.int o)), zD, g)) : ∀ s : Int32, wh (wX7_isWord_904_22 a2 g) s = some o → zK x 4 22 [(0, .ref 19), (1, .ref 904), (2, .int a2), (3, .int s)] [] zD g 0 0 := by
  refine wh_ind (fun s : Int32 => zK x 4 22 [(0, .ref 19), (1, .ref 904), (2, .int a2), (3, .int s)] [] zD g 0 0) (fun s o h hk2 => ?_)
  replace hk : qX7_isWord_904_22 x a2 g o := by
    cases o with
    | inl s => exact hk2
    | inr r => subst hk2; exact hk
  clear hk2
  unfold wX7_isWord_904_22 at h
  refine z_iload_n (pc := 22) hG 3 rfl rfl dX7_isWord_22 ?_
  refine z_iload_n (pc := 23) hG 2 rfl rfl dX7_isWord_23 ?_
  refine z_icmp_ge (pc := 24) (tgt := 56) hG dX7_isWord_24 rfl (fun hc => ?_) (fun hc => ?_)
  · replace h := zif_t hc h
    replace h := zex_some h
    obtain ⟨o, h, rfl⟩ := h
    refine z_iconst (pc := 56) hG kc_1 dX7_isWord_56 ?_
    obtain rfl := Option.some.inj h
    exact z_iret (pc := 57) hG rfl rfl hk dX7_isWord_57
  · replace h := zif_f hc h
    refine z_aload_n (pc := 27) hG 0 rfl rfl dX7_isWord_27 ?_
    refine z_getr (pc := 28) hG zc_X7 inX7 DL_19 0 rfl (by decide) rfl w598 dX7_isWord_28 ?_
    refine z_aload_n (pc := 31) hG 0 rfl rfl dX7_isWord_31 ?_
    refine z_geti (pc := 32) hG zc_X7 inX7 DL_19 2 rfl (by decide) rfl w600 dX7_isWord_32 ?_
    refine z_iload_n (pc := 35) hG 3 rfl rfl dX7_isWord_35 ?_
    refine z_iadd (pc := 36) hG dX7_isWord_36 ?_
    replace h := zbind h
    obtain ⟨v2, hv2, h⟩ := h
    refine z_cvI (pc := 37) (A' := 0) (B' := 0) hG [.int ((g.1 19 2) + s)] [] zc_X9 DL_1 (tX9_at hl0 ((g.1 19 2) + s) g hv2) zy_X9_at ⟨w1124, w1125⟩ w1123 dX7_isWord_37 rfl (Nat.le_of_ble_eq_true rfl) rfl rfl rfl (Nat.le_of_ble_eq_true rfl) rfl ?_
    refine z_aload_n (pc := 40) hG 1 rfl rfl dX7_isWord_40 ?_
    refine z_iload_n (pc := 41) hG 3 rfl rfl dX7_isWord_41 ?_
    replace h := zbind h
    obtain ⟨v3, hv3, h⟩ := h
    refine z_cvSI (pc := 42) (A' := 0) (B' := 0) hG [.int s] [.int v2] (rfl : zsq 904 = true) (tJ0_charAt_5068e_904 hl0 s g hv3) zy_J0_charAt_5068e ⟨w1081, w1082⟩ w1146 dX7_isWord_42 rfl (Nat.le_of_ble_eq_true rfl) rfl rfl rfl (Nat.le_of_ble_eq_true rfl) rfl ?_
    refine z_icmp_eq (pc := 45) (tgt := 50) hG dX7_isWord_45 rfl (fun hc => ?_) (fun hc => ?_)
    · replace h := zif_t hc h
      refine z_iinc (pc := 50) (ls' := [(3, .int (s + (1 : Int32))), (0, .ref 19), (1, .ref 904), (2, .int a2)]) hG 3 rfl [0, 1, 2, 3] (ki_1 _) (by decide) rfl dX7_isWord_50 ?_
      refine z_goto (pc := 53) (tgt := 22) hG dX7_isWord_53 rfl ?_
      obtain rfl := Option.some.inj h
      refine z_sub (ls' := [(0, .ref 19), (1, .ref 904), (2, .int a2), (3, .int (s + (1 : Int32)))]) [1, 2, 3, 0] rfl ?_
      exact hk
    · replace h := zif_f hc h
      replace h := zex_some h
      obtain ⟨o, h, rfl⟩ := h
      refine z_iconst (pc := 48) hG kc_0 dX7_isWord_48 ?_
      obtain rfl := Option.some.inj h
      exact z_iret (pc := 49) hG rfl rfl hk dX7_isWord_49
set_option maxHeartbeats 60000 in
theorem tX7_isWord_904 {l : Launch} (hl0 : l.flags = flags0) (g : zS) {r : Int32} (h : nX7_isWord_904 g = some r) : zC l yX7_isWord cX7_isWord 4 ((Option.some Jvm.ClassFile.FieldType.boolean)) 4 0 0 [.ref 19, .ref 904] zD g (.inl (some (.int r)), zD, g) := by
  refine zC_of hl0 rfl (Nat.le_of_ble_eq_true rfl) (fun x hG hxl hk _ => ?_)
  subst hxl
  show zK x 4 0 [(0, .ref 19), (1, .ref 904)] [] zD g 0 0
  unfold nX7_isWord_904 at h
  refine z_aload_n (pc := 0) hG 1 rfl rfl dX7_isWord_0 ?_
  replace h := zbind h
  obtain ⟨v1, hv1, h⟩ := h
  refine z_cvSI (pc := 1) (A' := 0) (B' := 0) hG [] [] (rfl : zsq 904 = true) (tJ0_length_8abf5_904 hl0  g hv1) zy_J0_length_8abf5 ⟨w908, w909⟩ w1145 dX7_isWord_1 rfl (Nat.le_of_ble_eq_true rfl) rfl rfl rfl (Nat.le_of_ble_eq_true rfl) rfl ?_
  refine z_istore_n (pc := 4) (ls' := [(2, .int v1), (0, .ref 19), (1, .ref 904)]) hG [0, 1, 2] rfl (by decide) rfl dX7_isWord_4 ?_
  refine z_aload_n (pc := 5) hG 1 rfl rfl dX7_isWord_5 ?_
  refine z_geti (pc := 6) hG zc_X7 inX7 DL_19 3 rfl (by decide) rfl w601 dX7_isWord_6 ?_
  refine z_aload_n (pc := 9) hG 1 rfl rfl dX7_isWord_9 ?_
  refine z_geti (pc := 10) hG zc_X7 inX7 DL_19 2 rfl (by decide) rfl w600 dX7_isWord_10 ?_
  refine z_isub (pc := 13) hG dX7_isWord_13 ?_
  refine z_iload_n (pc := 14) hG 0 rfl rfl dX7_isWord_14 ?_
  refine z_icmp_eq (pc := 15) (tgt := 20) hG dX7_isWord_15 rfl (fun hc => ?_) (fun hc => ?_)
  · replace h := zif_t hc h
    refine z_iconst (pc := 20) hG kc_0 dX7_isWord_20 ?_
    refine z_istore_n (pc := 21) (ls' := [(3, .int (0 : Int32)), (2, .int v1), (0, .ref 19), (1, .ref 904)]) hG [0, 1, 2, 3] rfl (by decide) rfl dX7_isWord_21 ?_
    refine z_sub (ls' := [(0, .ref 19), (1, .ref 904), (2, .int v1), (3, .int (0 : Int32))]) [2, 3, 1, 0] rfl ?_
    exact kwX7_isWord_904_22 hG hl0 v1 g hk (0 : Int32) h
  · replace h := zif_f hc h
    refine z_iconst (pc := 18) hG kc_0 dX7_isWord_18 ?_
    obtain rfl := Option.some.inj h
    exact z_iret (pc := 19) hG rfl rfl hk dX7_isWord_19
noncomputable def nJ0_coder_7d493_905 : Option Int32 :=
  if (1 : Int32) = 0 then (some ((1 : Int32))) else (some ((0 : Int32)))
set_option maxHeartbeats 60000 in
theorem tJ0_coder_7d493_905 {l : Launch} (hl0 : l.flags = flags0) (g : zS) {r : Int32} (h : nJ0_coder_7d493_905  = some r) : zC l yJ0_coder_7d493 cJ0_coder_7d493 1 ((Option.some Jvm.ClassFile.FieldType.byte)) 0 0 0 [.ref 905] zD g (.inl (some (.int r)), zD, g) := by
  refine zC_of hl0 rfl (Nat.le_of_ble_eq_true rfl) (fun x hG hxl hk _ => ?_)
  subst hxl
  show zK x 0 0 [(0, .ref 905)] [] zD g 0 0
  unfold nJ0_coder_7d493_905 at h
  refine z_cstr (pc := 0) hG w915 dJ0_coder_7d493_0 ?_
  refine z_if_eq (pc := 3) (tgt := 13) hG dJ0_coder_7d493_3 rfl (fun hc => ?_) (fun hc => ?_)
  · replace h := zif_t hc h
    refine z_iconst (pc := 13) hG kc_1 dJ0_coder_7d493_13 ?_
    obtain rfl := Option.some.inj h
    exact z_iret (pc := 14) hG rfl rfl hk dJ0_coder_7d493_14
  · replace h := zif_f hc h
    refine z_aload_n (pc := 6) hG 0 rfl rfl dJ0_coder_7d493_6 ?_
    refine z_scod (pc := 7) (q := 905) hG rfl w1060 dJ0_coder_7d493_7 ?_
    refine z_goto (pc := 10) (tgt := 14) hG dJ0_coder_7d493_10 rfl ?_
    obtain rfl := Option.some.inj h
    exact z_iret (pc := 14) hG rfl rfl hk dJ0_coder_7d493_14
noncomputable def nJ0_length_8abf5_905 : Option Int32 :=
  (nJ0_coder_7d493_905 ).bind fun v1 => some (((nI (slen.getD (zsj 905) 0)) >>> (v1 &&& 31)))
set_option maxHeartbeats 60000 in
theorem tJ0_length_8abf5_905 {l : Launch} (hl0 : l.flags = flags0) (g : zS) {r : Int32} (h : nJ0_length_8abf5_905  = some r) : zC l yJ0_length_8abf5 cJ0_length_8abf5 1 ((Option.some Jvm.ClassFile.FieldType.int)) 1 0 0 [.ref 905] zD g (.inl (some (.int r)), zD, g) := by
  refine zC_of hl0 rfl (Nat.le_of_ble_eq_true rfl) (fun x hG hxl hk _ => ?_)
  subst hxl
  show zK x 1 0 [(0, .ref 905)] [] zD g 0 0
  unfold nJ0_length_8abf5_905 at h
  refine z_aload_n (pc := 0) hG 0 rfl rfl dJ0_length_8abf5_0 ?_
  refine z_sval (pc := 1) (q := 905) hG rfl w1059 dJ0_length_8abf5_1 ?_
  refine z_slen (pc := 4) (q := 905) hG rfl rfl dJ0_length_8abf5_4 ?_
  refine z_aload_n (pc := 5) hG 0 rfl rfl dJ0_length_8abf5_5 ?_
  replace h := zbind h
  obtain ⟨v1, hv1, h⟩ := h
  refine z_cvSI (pc := 6) (A' := 0) (B' := 0) hG [] [.int (nI (slen.getD (zsj 905) 0))] (rfl : zsq 905 = true) (tJ0_coder_7d493_905 hl0  g hv1) zy_J0_coder_7d493 ⟨w912, w913⟩ w911 dJ0_length_8abf5_6 rfl (Nat.le_of_ble_eq_true rfl) rfl rfl rfl (Nat.le_of_ble_eq_true rfl) rfl ?_
  refine z_ishr (pc := 9) hG dJ0_length_8abf5_9 ?_
  obtain rfl := Option.some.inj h
  exact z_iret (pc := 10) hG rfl rfl hk dJ0_length_8abf5_10
noncomputable def nJ0_isLatin1_aae02_905 : Option Int32 :=
  if (1 : Int32) = 0 then (some ((0 : Int32))) else (if (0 : Int32) = 0 then (some ((1 : Int32))) else (some ((0 : Int32))))
set_option maxHeartbeats 60000 in
theorem tJ0_isLatin1_aae02_905 {l : Launch} (hl0 : l.flags = flags0) (g : zS) {r : Int32} (h : nJ0_isLatin1_aae02_905  = some r) : zC l yJ0_isLatin1_aae02 cJ0_isLatin1_aae02 1 ((Option.some Jvm.ClassFile.FieldType.boolean)) 0 0 0 [.ref 905] zD g (.inl (some (.int r)), zD, g) := by
  refine zC_of hl0 rfl (Nat.le_of_ble_eq_true rfl) (fun x hG hxl hk _ => ?_)
  subst hxl
  show zK x 0 0 [(0, .ref 905)] [] zD g 0 0
  unfold nJ0_isLatin1_aae02_905 at h
  refine z_cstr (pc := 0) hG w915 dJ0_isLatin1_aae02_0 ?_
  refine z_if_eq (pc := 3) (tgt := 17) hG dJ0_isLatin1_aae02_3 rfl (fun hc => ?_) (fun hc => ?_)
  · replace h := zif_t hc h
    refine z_iconst (pc := 17) hG kc_0 dJ0_isLatin1_aae02_17 ?_
    obtain rfl := Option.some.inj h
    exact z_iret (pc := 18) hG rfl rfl hk dJ0_isLatin1_aae02_18
  · replace h := zif_f hc h
    refine z_aload_n (pc := 6) hG 0 rfl rfl dJ0_isLatin1_aae02_6 ?_
    refine z_scod (pc := 7) (q := 905) hG rfl w1060 dJ0_isLatin1_aae02_7 ?_
    refine z_if_ne (pc := 10) (tgt := 17) hG dJ0_isLatin1_aae02_10 rfl (fun hc => ?_) (fun hc => ?_)
    · replace h := zif_f hc h
      refine z_iconst (pc := 17) hG kc_0 dJ0_isLatin1_aae02_17 ?_
      obtain rfl := Option.some.inj h
      exact z_iret (pc := 18) hG rfl rfl hk dJ0_isLatin1_aae02_18
    · replace h := zif_t hc h
      refine z_iconst (pc := 13) hG kc_1 dJ0_isLatin1_aae02_13 ?_
      refine z_goto (pc := 14) (tgt := 18) hG dJ0_isLatin1_aae02_14 rfl ?_
      obtain rfl := Option.some.inj h
      exact z_iret (pc := 18) hG rfl rfl hk dJ0_isLatin1_aae02_18
noncomputable def nJ1_charAt_3b067_925 (a1 : Int32) : Option Int32 :=
  (nJ0_checkIndex_df160 a1 (nI (slen.getD (zsj 905) 0))).bind fun v1 => zchk (zin a1 (slen.getD (zsj 905) 0)) (zchk (znc ((((sbyt.getD (zsj 905) []).getD a1.toNatClampNeg 0) &&& (255 : Int32)).toUInt32 % 65536).toInt32) (some (((((sbyt.getD (zsj 905) []).getD a1.toNatClampNeg 0) &&& (255 : Int32)).toUInt32 % 65536).toInt32)))
set_option maxHeartbeats 60000 in
theorem tJ1_charAt_3b067_925 {l : Launch} (hl0 : l.flags = flags0) (a1 : Int32) (g : zS) {r : Int32} (h : nJ1_charAt_3b067_925 a1 = some r) : zC l yJ1_charAt_3b067 cJ1_charAt_3b067 2 ((Option.some Jvm.ClassFile.FieldType.char)) 2 0 0 [.ref 925, .int a1] zD g (.inl (some (.int r)), zD, g) := by
  refine zC_of hl0 rfl (Nat.le_of_ble_eq_true rfl) (fun x hG hxl hk _ => ?_)
  subst hxl
  show zK x 2 0 [(0, .ref 925), (1, .int a1)] [] zD g 0 0
  unfold nJ1_charAt_3b067_925 at h
  refine z_iload_n (pc := 0) hG 1 rfl rfl dJ1_charAt_3b067_0 ?_
  refine z_aload_n (pc := 1) hG 0 rfl rfl dJ1_charAt_3b067_1 ?_
  refine z_slen (pc := 2) (q := 905) hG rfl rfl dJ1_charAt_3b067_2 ?_
  replace h := zbind h
  obtain ⟨v1, hv1, h⟩ := h
  refine z_csV (pc := 3) (A' := 0) (B' := 0) hG [.int a1, .int (nI (slen.getD (zsj 905) 0))] [] (tJ0_checkIndex_df160 hl0 a1 (nI (slen.getD (zsj 905) 0)) g hv1) zy_J0_checkIndex_df160 w967 w1091 dJ1_charAt_3b067_3 rfl (Nat.le_of_ble_eq_true rfl) rfl rfl rfl (Nat.le_of_ble_eq_true rfl) rfl ?_
  refine z_aload_n (pc := 6) hG 0 rfl rfl dJ1_charAt_3b067_6 ?_
  refine z_iload_n (pc := 7) hG 1 rfl rfl dJ1_charAt_3b067_7 ?_
  replace h := zchk_some h
  obtain ⟨hc, h⟩ := h
  refine z_sbyt (pc := 8) (q := 905) hG rfl rfl (zin_in hc) dJ1_charAt_3b067_8 ?_
  refine z_sipush (pc := 9) hG ks_255 dJ1_charAt_3b067_9 ?_
  refine z_iand (pc := 12) hG dJ1_charAt_3b067_12 ?_
  refine z_i2c (pc := 13) hG dJ1_charAt_3b067_13 ?_
  replace h := zchk_some h
  obtain ⟨hc, h⟩ := h
  obtain rfl := Option.some.inj h
  exact z_iret (pc := 14) hG rfl (znc_n hc) hk dJ1_charAt_3b067_14
noncomputable def nJ0_charAt_5068e_905 (a1 : Int32) : Option Int32 :=
  (nJ0_isLatin1_aae02_905 ).bind fun v1 => if v1 = 0 then (none) else ((nJ1_charAt_3b067_925 a1).bind fun v2 => zchk (znc v2) (some (v2)))
set_option maxHeartbeats 60000 in
theorem tJ0_charAt_5068e_905 {l : Launch} (hl0 : l.flags = flags0) (a1 : Int32) (g : zS) {r : Int32} (h : nJ0_charAt_5068e_905 a1 = some r) : zC l yJ0_charAt_5068e cJ0_charAt_5068e 2 ((Option.some Jvm.ClassFile.FieldType.char)) 3 0 0 [.ref 905, .int a1] zD g (.inl (some (.int r)), zD, g) := by
  refine zC_of hl0 rfl (Nat.le_of_ble_eq_true rfl) (fun x hG hxl hk _ => ?_)
  subst hxl
  show zK x 3 0 [(0, .ref 905), (1, .int a1)] [] zD g 0 0
  unfold nJ0_charAt_5068e_905 at h
  refine z_aload_n (pc := 0) hG 0 rfl rfl dJ0_charAt_5068e_0 ?_
  replace h := zbind h
  obtain ⟨v1, hv1, h⟩ := h
  refine z_cvSI (pc := 1) (A' := 0) (B' := 0) hG [] [] (rfl : zsq 905 = true) (tJ0_isLatin1_aae02_905 hl0  g hv1) zy_J0_isLatin1_aae02 ⟨w1085, w1086⟩ w1084 dJ0_charAt_5068e_1 rfl (Nat.le_of_ble_eq_true rfl) rfl rfl rfl (Nat.le_of_ble_eq_true rfl) rfl ?_
  refine z_if_eq (pc := 4) (tgt := 16) hG dJ0_charAt_5068e_4 rfl (fun hc => ?_) (fun hc => ?_)
  · replace h := zif_t hc h
    cases h
  · replace h := zif_f hc h
    refine z_aload_n (pc := 7) hG 0 rfl rfl dJ0_charAt_5068e_7 ?_
    refine z_sval (pc := 8) (q := 905) hG rfl w1059 dJ0_charAt_5068e_8 ?_
    refine z_iload_n (pc := 11) hG 1 rfl rfl dJ0_charAt_5068e_11 ?_
    replace h := zbind h
    obtain ⟨v2, hv2, h⟩ := h
    refine z_csI (pc := 12) (A' := 0) (B' := 0) hG [.ref 925, .int a1] [] (tJ1_charAt_3b067_925 hl0 a1 g hv2) zy_J1_charAt_3b067 w1089 w1088 dJ0_charAt_5068e_12 rfl (Nat.le_of_ble_eq_true rfl) rfl rfl rfl (Nat.le_of_ble_eq_true rfl) rfl ?_
    replace h := zchk_some h
    obtain ⟨hc, h⟩ := h
    obtain rfl := Option.some.inj h
    exact z_iret (pc := 15) hG rfl (znc_n hc) hk dJ0_charAt_5068e_15
noncomputable def wX7_isWord_905_22 (a2 : Int32) (g : zS) (s : Int32) : Option (Int32 ⊕ Int32) :=
  if a2 ≤ s then (zex (some ((1 : Int32)))) else ((nX9_at ((g.1 19 2) + s) g).bind fun v2 => (nJ0_charAt_5068e_905 s).bind fun v3 => if v2 = v3 then (some (.inl (s + (1 : Int32)))) else (zex (some ((0 : Int32)))))
noncomputable def nX7_isWord_905 (g : zS) : Option Int32 :=
  (nJ0_length_8abf5_905 ).bind fun v1 => if ((g.1 19 3) - (g.1 19 2)) = v1 then (wh (wX7_isWord_905_22 v1 g) (0 : Int32)) else (some ((0 : Int32)))
def qX7_isWord_905_22 (x : zXx) (a2 : Int32) (g : zS) (o : Int32 ⊕ Int32) : Prop := match o with
  | .inl s => zK x 4 22 [(0, .ref 19), (1, .ref 905), (2, .int a2), (3, .int s)] [] zD g 0 0
  | .inr r => ztg x = (.inl (some (.int r)), zD, g)
set_option maxHeartbeats 60000 in
theorem kwX7_isWord_905_22 {x : zXx} (hG : zG x cX7_isWord 4 RX7 ((Option.some Jvm.ClassFile.FieldType.boolean))) (hl0 : (zl0 x).flags = flags0) (a2 : Int32) (g : zS) {o : Int32} (hk : ztg x = (.inl (some (.int o)), zD, g)) : ∀ s : Int32, wh (wX7_isWord_905_22 a2 g) s = some o → zK x 4 22 [(0, .ref 19), (1, .ref 905), (2, .int a2), (3, .int s)] [] zD g 0 0 := by
  refine wh_ind (fun s : Int32 => zK x 4 22 [(0, .ref 19), (1, .ref 905), (2, .int a2), (3, .int s)] [] zD g 0 0) (fun s o h hk2 => ?_)
  replace hk : qX7_isWord_905_22 x a2 g o := by
    cases o with
    | inl s => exact hk2
    | inr r => subst hk2; exact hk
  clear hk2
  unfold wX7_isWord_905_22 at h
  refine z_iload_n (pc := 22) hG 3 rfl rfl dX7_isWord_22 ?_
  refine z_iload_n (pc := 23) hG 2 rfl rfl dX7_isWord_23 ?_
  refine z_icmp_ge (pc := 24) (tgt := 56) hG dX7_isWord_24 rfl (fun hc => ?_) (fun hc => ?_)
  · replace h := zif_t hc h
    replace h := zex_some h
    obtain ⟨o, h, rfl⟩ := h
    refine z_iconst (pc := 56) hG kc_1 dX7_isWord_56 ?_
    obtain rfl := Option.some.inj h
    exact z_iret (pc := 57) hG rfl rfl hk dX7_isWord_57
  · replace h := zif_f hc h
    refine z_aload_n (pc := 27) hG 0 rfl rfl dX7_isWord_27 ?_
    refine z_getr (pc := 28) hG zc_X7 inX7 DL_19 0 rfl (by decide) rfl w598 dX7_isWord_28 ?_
    refine z_aload_n (pc := 31) hG 0 rfl rfl dX7_isWord_31 ?_
    refine z_geti (pc := 32) hG zc_X7 inX7 DL_19 2 rfl (by decide) rfl w600 dX7_isWord_32 ?_
    refine z_iload_n (pc := 35) hG 3 rfl rfl dX7_isWord_35 ?_
    refine z_iadd (pc := 36) hG dX7_isWord_36 ?_
    replace h := zbind h
    obtain ⟨v2, hv2, h⟩ := h
    refine z_cvI (pc := 37) (A' := 0) (B' := 0) hG [.int ((g.1 19 2) + s)] [] zc_X9 DL_1 (tX9_at hl0 ((g.1 19 2) + s) g hv2) zy_X9_at ⟨w1124, w1125⟩ w1123 dX7_isWord_37 rfl (Nat.le_of_ble_eq_true rfl) rfl rfl rfl (Nat.le_of_ble_eq_true rfl) rfl ?_
    refine z_aload_n (pc := 40) hG 1 rfl rfl dX7_isWord_40 ?_
    refine z_iload_n (pc := 41) hG 3 rfl rfl dX7_isWord_41 ?_
    replace h := zbind h
    obtain ⟨v3, hv3, h⟩ := h
    refine z_cvSI (pc := 42) (A' := 0) (B' := 0) hG [.int s] [.int v2] (rfl : zsq 905 = true) (tJ0_charAt_5068e_905 hl0 s g hv3) zy_J0_charAt_5068e ⟨w1081, w1082⟩ w1146 dX7_isWord_42 rfl (Nat.le_of_ble_eq_true rfl) rfl rfl rfl (Nat.le_of_ble_eq_true rfl) rfl ?_
    refine z_icmp_eq (pc := 45) (tgt := 50) hG dX7_isWord_45 rfl (fun hc => ?_) (fun hc => ?_)
    · replace h := zif_t hc h
      refine z_iinc (pc := 50) (ls' := [(3, .int (s + (1 : Int32))), (0, .ref 19), (1, .ref 905), (2, .int a2)]) hG 3 rfl [0, 1, 2, 3] (ki_1 _) (by decide) rfl dX7_isWord_50 ?_
      refine z_goto (pc := 53) (tgt := 22) hG dX7_isWord_53 rfl ?_
      obtain rfl := Option.some.inj h
      refine z_sub (ls' := [(0, .ref 19), (1, .ref 905), (2, .int a2), (3, .int (s + (1 : Int32)))]) [1, 2, 3, 0] rfl ?_
      exact hk
    · replace h := zif_f hc h
      replace h := zex_some h
      obtain ⟨o, h, rfl⟩ := h
      refine z_iconst (pc := 48) hG kc_0 dX7_isWord_48 ?_
      obtain rfl := Option.some.inj h
      exact z_iret (pc := 49) hG rfl rfl hk dX7_isWord_49
set_option maxHeartbeats 60000 in
theorem tX7_isWord_905 {l : Launch} (hl0 : l.flags = flags0) (g : zS) {r : Int32} (h : nX7_isWord_905 g = some r) : zC l yX7_isWord cX7_isWord 4 ((Option.some Jvm.ClassFile.FieldType.boolean)) 4 0 0 [.ref 19, .ref 905] zD g (.inl (some (.int r)), zD, g) := by
  refine zC_of hl0 rfl (Nat.le_of_ble_eq_true rfl) (fun x hG hxl hk _ => ?_)
  subst hxl
  show zK x 4 0 [(0, .ref 19), (1, .ref 905)] [] zD g 0 0
  unfold nX7_isWord_905 at h
  refine z_aload_n (pc := 0) hG 1 rfl rfl dX7_isWord_0 ?_
  replace h := zbind h
  obtain ⟨v1, hv1, h⟩ := h
  refine z_cvSI (pc := 1) (A' := 0) (B' := 0) hG [] [] (rfl : zsq 905 = true) (tJ0_length_8abf5_905 hl0  g hv1) zy_J0_length_8abf5 ⟨w908, w909⟩ w1145 dX7_isWord_1 rfl (Nat.le_of_ble_eq_true rfl) rfl rfl rfl (Nat.le_of_ble_eq_true rfl) rfl ?_
  refine z_istore_n (pc := 4) (ls' := [(2, .int v1), (0, .ref 19), (1, .ref 905)]) hG [0, 1, 2] rfl (by decide) rfl dX7_isWord_4 ?_
  refine z_aload_n (pc := 5) hG 1 rfl rfl dX7_isWord_5 ?_
  refine z_geti (pc := 6) hG zc_X7 inX7 DL_19 3 rfl (by decide) rfl w601 dX7_isWord_6 ?_
  refine z_aload_n (pc := 9) hG 1 rfl rfl dX7_isWord_9 ?_
  refine z_geti (pc := 10) hG zc_X7 inX7 DL_19 2 rfl (by decide) rfl w600 dX7_isWord_10 ?_
  refine z_isub (pc := 13) hG dX7_isWord_13 ?_
  refine z_iload_n (pc := 14) hG 0 rfl rfl dX7_isWord_14 ?_
  refine z_icmp_eq (pc := 15) (tgt := 20) hG dX7_isWord_15 rfl (fun hc => ?_) (fun hc => ?_)
  · replace h := zif_t hc h
    refine z_iconst (pc := 20) hG kc_0 dX7_isWord_20 ?_
    refine z_istore_n (pc := 21) (ls' := [(3, .int (0 : Int32)), (2, .int v1), (0, .ref 19), (1, .ref 905)]) hG [0, 1, 2, 3] rfl (by decide) rfl dX7_isWord_21 ?_
    refine z_sub (ls' := [(0, .ref 19), (1, .ref 905), (2, .int v1), (3, .int (0 : Int32))]) [2, 3, 1, 0] rfl ?_
    exact kwX7_isWord_905_22 hG hl0 v1 g hk (0 : Int32) h
  · replace h := zif_f hc h
    refine z_iconst (pc := 18) hG kc_0 dX7_isWord_18 ?_
    obtain rfl := Option.some.inj h
    exact z_iret (pc := 19) hG rfl rfl hk dX7_isWord_19
noncomputable def nJ0_coder_7d493_908 : Option Int32 :=
  if (1 : Int32) = 0 then (some ((1 : Int32))) else (some ((0 : Int32)))
set_option maxHeartbeats 60000 in
theorem tJ0_coder_7d493_908 {l : Launch} (hl0 : l.flags = flags0) (g : zS) {r : Int32} (h : nJ0_coder_7d493_908  = some r) : zC l yJ0_coder_7d493 cJ0_coder_7d493 1 ((Option.some Jvm.ClassFile.FieldType.byte)) 0 0 0 [.ref 908] zD g (.inl (some (.int r)), zD, g) := by
  refine zC_of hl0 rfl (Nat.le_of_ble_eq_true rfl) (fun x hG hxl hk _ => ?_)
  subst hxl
  show zK x 0 0 [(0, .ref 908)] [] zD g 0 0
  unfold nJ0_coder_7d493_908 at h
  refine z_cstr (pc := 0) hG w915 dJ0_coder_7d493_0 ?_
  refine z_if_eq (pc := 3) (tgt := 13) hG dJ0_coder_7d493_3 rfl (fun hc => ?_) (fun hc => ?_)
  · replace h := zif_t hc h
    refine z_iconst (pc := 13) hG kc_1 dJ0_coder_7d493_13 ?_
    obtain rfl := Option.some.inj h
    exact z_iret (pc := 14) hG rfl rfl hk dJ0_coder_7d493_14
  · replace h := zif_f hc h
    refine z_aload_n (pc := 6) hG 0 rfl rfl dJ0_coder_7d493_6 ?_
    refine z_scod (pc := 7) (q := 908) hG rfl w1060 dJ0_coder_7d493_7 ?_
    refine z_goto (pc := 10) (tgt := 14) hG dJ0_coder_7d493_10 rfl ?_
    obtain rfl := Option.some.inj h
    exact z_iret (pc := 14) hG rfl rfl hk dJ0_coder_7d493_14
noncomputable def nJ0_length_8abf5_908 : Option Int32 :=
  (nJ0_coder_7d493_908 ).bind fun v1 => some (((nI (slen.getD (zsj 908) 0)) >>> (v1 &&& 31)))
set_option maxHeartbeats 60000 in
theorem tJ0_length_8abf5_908 {l : Launch} (hl0 : l.flags = flags0) (g : zS) {r : Int32} (h : nJ0_length_8abf5_908  = some r) : zC l yJ0_length_8abf5 cJ0_length_8abf5 1 ((Option.some Jvm.ClassFile.FieldType.int)) 1 0 0 [.ref 908] zD g (.inl (some (.int r)), zD, g) := by
  refine zC_of hl0 rfl (Nat.le_of_ble_eq_true rfl) (fun x hG hxl hk _ => ?_)
  subst hxl
  show zK x 1 0 [(0, .ref 908)] [] zD g 0 0
  unfold nJ0_length_8abf5_908 at h
  refine z_aload_n (pc := 0) hG 0 rfl rfl dJ0_length_8abf5_0 ?_
  refine z_sval (pc := 1) (q := 908) hG rfl w1059 dJ0_length_8abf5_1 ?_
  refine z_slen (pc := 4) (q := 908) hG rfl rfl dJ0_length_8abf5_4 ?_
  refine z_aload_n (pc := 5) hG 0 rfl rfl dJ0_length_8abf5_5 ?_
  replace h := zbind h
  obtain ⟨v1, hv1, h⟩ := h
  refine z_cvSI (pc := 6) (A' := 0) (B' := 0) hG [] [.int (nI (slen.getD (zsj 908) 0))] (rfl : zsq 908 = true) (tJ0_coder_7d493_908 hl0  g hv1) zy_J0_coder_7d493 ⟨w912, w913⟩ w911 dJ0_length_8abf5_6 rfl (Nat.le_of_ble_eq_true rfl) rfl rfl rfl (Nat.le_of_ble_eq_true rfl) rfl ?_
  refine z_ishr (pc := 9) hG dJ0_length_8abf5_9 ?_
  obtain rfl := Option.some.inj h
  exact z_iret (pc := 10) hG rfl rfl hk dJ0_length_8abf5_10
noncomputable def nJ0_isLatin1_aae02_908 : Option Int32 :=
  if (1 : Int32) = 0 then (some ((0 : Int32))) else (if (0 : Int32) = 0 then (some ((1 : Int32))) else (some ((0 : Int32))))
set_option maxHeartbeats 60000 in
theorem tJ0_isLatin1_aae02_908 {l : Launch} (hl0 : l.flags = flags0) (g : zS) {r : Int32} (h : nJ0_isLatin1_aae02_908  = some r) : zC l yJ0_isLatin1_aae02 cJ0_isLatin1_aae02 1 ((Option.some Jvm.ClassFile.FieldType.boolean)) 0 0 0 [.ref 908] zD g (.inl (some (.int r)), zD, g) := by
  refine zC_of hl0 rfl (Nat.le_of_ble_eq_true rfl) (fun x hG hxl hk _ => ?_)
  subst hxl
  show zK x 0 0 [(0, .ref 908)] [] zD g 0 0
  unfold nJ0_isLatin1_aae02_908 at h
  refine z_cstr (pc := 0) hG w915 dJ0_isLatin1_aae02_0 ?_
  refine z_if_eq (pc := 3) (tgt := 17) hG dJ0_isLatin1_aae02_3 rfl (fun hc => ?_) (fun hc => ?_)
  · replace h := zif_t hc h
    refine z_iconst (pc := 17) hG kc_0 dJ0_isLatin1_aae02_17 ?_
    obtain rfl := Option.some.inj h
    exact z_iret (pc := 18) hG rfl rfl hk dJ0_isLatin1_aae02_18
  · replace h := zif_f hc h
    refine z_aload_n (pc := 6) hG 0 rfl rfl dJ0_isLatin1_aae02_6 ?_
    refine z_scod (pc := 7) (q := 908) hG rfl w1060 dJ0_isLatin1_aae02_7 ?_
    refine z_if_ne (pc := 10) (tgt := 17) hG dJ0_isLatin1_aae02_10 rfl (fun hc => ?_) (fun hc => ?_)
    · replace h := zif_f hc h
      refine z_iconst (pc := 17) hG kc_0 dJ0_isLatin1_aae02_17 ?_
      obtain rfl := Option.some.inj h
      exact z_iret (pc := 18) hG rfl rfl hk dJ0_isLatin1_aae02_18
    · replace h := zif_t hc h
      refine z_iconst (pc := 13) hG kc_1 dJ0_isLatin1_aae02_13 ?_
      refine z_goto (pc := 14) (tgt := 18) hG dJ0_isLatin1_aae02_14 rfl ?_
      obtain rfl := Option.some.inj h
      exact z_iret (pc := 18) hG rfl rfl hk dJ0_isLatin1_aae02_18
noncomputable def nJ1_charAt_3b067_928 (a1 : Int32) : Option Int32 :=
  (nJ0_checkIndex_df160 a1 (nI (slen.getD (zsj 908) 0))).bind fun v1 => zchk (zin a1 (slen.getD (zsj 908) 0)) (zchk (znc ((((sbyt.getD (zsj 908) []).getD a1.toNatClampNeg 0) &&& (255 : Int32)).toUInt32 % 65536).toInt32) (some (((((sbyt.getD (zsj 908) []).getD a1.toNatClampNeg 0) &&& (255 : Int32)).toUInt32 % 65536).toInt32)))
set_option maxHeartbeats 60000 in
theorem tJ1_charAt_3b067_928 {l : Launch} (hl0 : l.flags = flags0) (a1 : Int32) (g : zS) {r : Int32} (h : nJ1_charAt_3b067_928 a1 = some r) : zC l yJ1_charAt_3b067 cJ1_charAt_3b067 2 ((Option.some Jvm.ClassFile.FieldType.char)) 2 0 0 [.ref 928, .int a1] zD g (.inl (some (.int r)), zD, g) := by
  refine zC_of hl0 rfl (Nat.le_of_ble_eq_true rfl) (fun x hG hxl hk _ => ?_)
  subst hxl
  show zK x 2 0 [(0, .ref 928), (1, .int a1)] [] zD g 0 0
  unfold nJ1_charAt_3b067_928 at h
  refine z_iload_n (pc := 0) hG 1 rfl rfl dJ1_charAt_3b067_0 ?_
  refine z_aload_n (pc := 1) hG 0 rfl rfl dJ1_charAt_3b067_1 ?_
  refine z_slen (pc := 2) (q := 908) hG rfl rfl dJ1_charAt_3b067_2 ?_
  replace h := zbind h
  obtain ⟨v1, hv1, h⟩ := h
  refine z_csV (pc := 3) (A' := 0) (B' := 0) hG [.int a1, .int (nI (slen.getD (zsj 908) 0))] [] (tJ0_checkIndex_df160 hl0 a1 (nI (slen.getD (zsj 908) 0)) g hv1) zy_J0_checkIndex_df160 w967 w1091 dJ1_charAt_3b067_3 rfl (Nat.le_of_ble_eq_true rfl) rfl rfl rfl (Nat.le_of_ble_eq_true rfl) rfl ?_
  refine z_aload_n (pc := 6) hG 0 rfl rfl dJ1_charAt_3b067_6 ?_
  refine z_iload_n (pc := 7) hG 1 rfl rfl dJ1_charAt_3b067_7 ?_
  replace h := zchk_some h
  obtain ⟨hc, h⟩ := h
  refine z_sbyt (pc := 8) (q := 908) hG rfl rfl (zin_in hc) dJ1_charAt_3b067_8 ?_
  refine z_sipush (pc := 9) hG ks_255 dJ1_charAt_3b067_9 ?_
  refine z_iand (pc := 12) hG dJ1_charAt_3b067_12 ?_
  refine z_i2c (pc := 13) hG dJ1_charAt_3b067_13 ?_
  replace h := zchk_some h
  obtain ⟨hc, h⟩ := h
  obtain rfl := Option.some.inj h
  exact z_iret (pc := 14) hG rfl (znc_n hc) hk dJ1_charAt_3b067_14
noncomputable def nJ0_charAt_5068e_908 (a1 : Int32) : Option Int32 :=
  (nJ0_isLatin1_aae02_908 ).bind fun v1 => if v1 = 0 then (none) else ((nJ1_charAt_3b067_928 a1).bind fun v2 => zchk (znc v2) (some (v2)))
set_option maxHeartbeats 60000 in
theorem tJ0_charAt_5068e_908 {l : Launch} (hl0 : l.flags = flags0) (a1 : Int32) (g : zS) {r : Int32} (h : nJ0_charAt_5068e_908 a1 = some r) : zC l yJ0_charAt_5068e cJ0_charAt_5068e 2 ((Option.some Jvm.ClassFile.FieldType.char)) 3 0 0 [.ref 908, .int a1] zD g (.inl (some (.int r)), zD, g) := by
  refine zC_of hl0 rfl (Nat.le_of_ble_eq_true rfl) (fun x hG hxl hk _ => ?_)
  subst hxl
  show zK x 3 0 [(0, .ref 908), (1, .int a1)] [] zD g 0 0
  unfold nJ0_charAt_5068e_908 at h
  refine z_aload_n (pc := 0) hG 0 rfl rfl dJ0_charAt_5068e_0 ?_
  replace h := zbind h
  obtain ⟨v1, hv1, h⟩ := h
  refine z_cvSI (pc := 1) (A' := 0) (B' := 0) hG [] [] (rfl : zsq 908 = true) (tJ0_isLatin1_aae02_908 hl0  g hv1) zy_J0_isLatin1_aae02 ⟨w1085, w1086⟩ w1084 dJ0_charAt_5068e_1 rfl (Nat.le_of_ble_eq_true rfl) rfl rfl rfl (Nat.le_of_ble_eq_true rfl) rfl ?_
  refine z_if_eq (pc := 4) (tgt := 16) hG dJ0_charAt_5068e_4 rfl (fun hc => ?_) (fun hc => ?_)
  · replace h := zif_t hc h
    cases h
  · replace h := zif_f hc h
    refine z_aload_n (pc := 7) hG 0 rfl rfl dJ0_charAt_5068e_7 ?_
    refine z_sval (pc := 8) (q := 908) hG rfl w1059 dJ0_charAt_5068e_8 ?_
    refine z_iload_n (pc := 11) hG 1 rfl rfl dJ0_charAt_5068e_11 ?_
    replace h := zbind h
    obtain ⟨v2, hv2, h⟩ := h
    refine z_csI (pc := 12) (A' := 0) (B' := 0) hG [.ref 928, .int a1] [] (tJ1_charAt_3b067_928 hl0 a1 g hv2) zy_J1_charAt_3b067 w1089 w1088 dJ0_charAt_5068e_12 rfl (Nat.le_of_ble_eq_true rfl) rfl rfl rfl (Nat.le_of_ble_eq_true rfl) rfl ?_
    replace h := zchk_some h
    obtain ⟨hc, h⟩ := h
    obtain rfl := Option.some.inj h
    exact z_iret (pc := 15) hG rfl (znc_n hc) hk dJ0_charAt_5068e_15
noncomputable def wX7_isWord_908_22 (a2 : Int32) (g : zS) (s : Int32) : Option (Int32 ⊕ Int32) :=
  if a2 ≤ s then (zex (some ((1 : Int32)))) else ((nX9_at ((g.1 19 2) + s) g).bind fun v2 => (nJ0_charAt_5068e_908 s).bind fun v3 => if v2 = v3 then (some (.inl (s + (1 : Int32)))) else (zex (some ((0 : Int32)))))
noncomputable def nX7_isWord_908 (g : zS) : Option Int32 :=
  (nJ0_length_8abf5_908 ).bind fun v1 => if ((g.1 19 3) - (g.1 19 2)) = v1 then (wh (wX7_isWord_908_22 v1 g) (0 : Int32)) else (some ((0 : Int32)))
def qX7_isWord_908_22 (x : zXx) (a2 : Int32) (g : zS) (o : Int32 ⊕ Int32) : Prop := match o with
  | .inl s => zK x 4 22 [(0, .ref 19), (1, .ref 908), (2, .int a2), (3, .int s)] [] zD g 0 0
  | .inr r => ztg x = (.inl (some (.int r)), zD, g)
set_option maxHeartbeats 60000 in
theorem kwX7_isWord_908_22 {x : zXx} (hG : zG x cX7_isWord 4 RX7 ((Option.some Jvm.ClassFile.FieldType.boolean))) (hl0 : (zl0 x).flags = flags0) (a2 : Int32) (g : zS) {o : Int32} (hk : ztg x = (.inl (some (.int o)), zD, g)) : ∀ s : Int32, wh (wX7_isWord_908_22 a2 g) s = some o → zK x 4 22 [(0, .ref 19), (1, .ref 908), (2, .int a2), (3, .int s)] [] zD g 0 0 := by
  refine wh_ind (fun s : Int32 => zK x 4 22 [(0, .ref 19), (1, .ref 908), (2, .int a2), (3, .int s)] [] zD g 0 0) (fun s o h hk2 => ?_)
  replace hk : qX7_isWord_908_22 x a2 g o := by
    cases o with
    | inl s => exact hk2
    | inr r => subst hk2; exact hk
  clear hk2
  unfold wX7_isWord_908_22 at h
  refine z_iload_n (pc := 22) hG 3 rfl rfl dX7_isWord_22 ?_
  refine z_iload_n (pc := 23) hG 2 rfl rfl dX7_isWord_23 ?_
  refine z_icmp_ge (pc := 24) (tgt := 56) hG dX7_isWord_24 rfl (fun hc => ?_) (fun hc => ?_)
  · replace h := zif_t hc h
    replace h := zex_some h
    obtain ⟨o, h, rfl⟩ := h
    refine z_iconst (pc := 56) hG kc_1 dX7_isWord_56 ?_
    obtain rfl := Option.some.inj h
    exact z_iret (pc := 57) hG rfl rfl hk dX7_isWord_57
  · replace h := zif_f hc h
    refine z_aload_n (pc := 27) hG 0 rfl rfl dX7_isWord_27 ?_
    refine z_getr (pc := 28) hG zc_X7 inX7 DL_19 0 rfl (by decide) rfl w598 dX7_isWord_28 ?_
    refine z_aload_n (pc := 31) hG 0 rfl rfl dX7_isWord_31 ?_
    refine z_geti (pc := 32) hG zc_X7 inX7 DL_19 2 rfl (by decide) rfl w600 dX7_isWord_32 ?_
    refine z_iload_n (pc := 35) hG 3 rfl rfl dX7_isWord_35 ?_
    refine z_iadd (pc := 36) hG dX7_isWord_36 ?_
    replace h := zbind h
    obtain ⟨v2, hv2, h⟩ := h
    refine z_cvI (pc := 37) (A' := 0) (B' := 0) hG [.int ((g.1 19 2) + s)] [] zc_X9 DL_1 (tX9_at hl0 ((g.1 19 2) + s) g hv2) zy_X9_at ⟨w1124, w1125⟩ w1123 dX7_isWord_37 rfl (Nat.le_of_ble_eq_true rfl) rfl rfl rfl (Nat.le_of_ble_eq_true rfl) rfl ?_
    refine z_aload_n (pc := 40) hG 1 rfl rfl dX7_isWord_40 ?_
    refine z_iload_n (pc := 41) hG 3 rfl rfl dX7_isWord_41 ?_
    replace h := zbind h
    obtain ⟨v3, hv3, h⟩ := h
    refine z_cvSI (pc := 42) (A' := 0) (B' := 0) hG [.int s] [.int v2] (rfl : zsq 908 = true) (tJ0_charAt_5068e_908 hl0 s g hv3) zy_J0_charAt_5068e ⟨w1081, w1082⟩ w1146 dX7_isWord_42 rfl (Nat.le_of_ble_eq_true rfl) rfl rfl rfl (Nat.le_of_ble_eq_true rfl) rfl ?_
    refine z_icmp_eq (pc := 45) (tgt := 50) hG dX7_isWord_45 rfl (fun hc => ?_) (fun hc => ?_)
    · replace h := zif_t hc h
      refine z_iinc (pc := 50) (ls' := [(3, .int (s + (1 : Int32))), (0, .ref 19), (1, .ref 908), (2, .int a2)]) hG 3 rfl [0, 1, 2, 3] (ki_1 _) (by decide) rfl dX7_isWord_50 ?_
      refine z_goto (pc := 53) (tgt := 22) hG dX7_isWord_53 rfl ?_
      obtain rfl := Option.some.inj h
      refine z_sub (ls' := [(0, .ref 19), (1, .ref 908), (2, .int a2), (3, .int (s + (1 : Int32)))]) [1, 2, 3, 0] rfl ?_
      exact hk
    · replace h := zif_f hc h
      replace h := zex_some h
      obtain ⟨o, h, rfl⟩ := h
      refine z_iconst (pc := 48) hG kc_0 dX7_isWord_48 ?_
      obtain rfl := Option.some.inj h
      exact z_iret (pc := 49) hG rfl rfl hk dX7_isWord_49
set_option maxHeartbeats 60000 in
theorem tX7_isWord_908 {l : Launch} (hl0 : l.flags = flags0) (g : zS) {r : Int32} (h : nX7_isWord_908 g = some r) : zC l yX7_isWord cX7_isWord 4 ((Option.some Jvm.ClassFile.FieldType.boolean)) 4 0 0 [.ref 19, .ref 908] zD g (.inl (some (.int r)), zD, g) := by
  refine zC_of hl0 rfl (Nat.le_of_ble_eq_true rfl) (fun x hG hxl hk _ => ?_)
  subst hxl
  show zK x 4 0 [(0, .ref 19), (1, .ref 908)] [] zD g 0 0
  unfold nX7_isWord_908 at h
  refine z_aload_n (pc := 0) hG 1 rfl rfl dX7_isWord_0 ?_
  replace h := zbind h
  obtain ⟨v1, hv1, h⟩ := h
  refine z_cvSI (pc := 1) (A' := 0) (B' := 0) hG [] [] (rfl : zsq 908 = true) (tJ0_length_8abf5_908 hl0  g hv1) zy_J0_length_8abf5 ⟨w908, w909⟩ w1145 dX7_isWord_1 rfl (Nat.le_of_ble_eq_true rfl) rfl rfl rfl (Nat.le_of_ble_eq_true rfl) rfl ?_
  refine z_istore_n (pc := 4) (ls' := [(2, .int v1), (0, .ref 19), (1, .ref 908)]) hG [0, 1, 2] rfl (by decide) rfl dX7_isWord_4 ?_
  refine z_aload_n (pc := 5) hG 1 rfl rfl dX7_isWord_5 ?_
  refine z_geti (pc := 6) hG zc_X7 inX7 DL_19 3 rfl (by decide) rfl w601 dX7_isWord_6 ?_
  refine z_aload_n (pc := 9) hG 1 rfl rfl dX7_isWord_9 ?_
  refine z_geti (pc := 10) hG zc_X7 inX7 DL_19 2 rfl (by decide) rfl w600 dX7_isWord_10 ?_
  refine z_isub (pc := 13) hG dX7_isWord_13 ?_
  refine z_iload_n (pc := 14) hG 0 rfl rfl dX7_isWord_14 ?_
  refine z_icmp_eq (pc := 15) (tgt := 20) hG dX7_isWord_15 rfl (fun hc => ?_) (fun hc => ?_)
  · replace h := zif_t hc h
    refine z_iconst (pc := 20) hG kc_0 dX7_isWord_20 ?_
    refine z_istore_n (pc := 21) (ls' := [(3, .int (0 : Int32)), (2, .int v1), (0, .ref 19), (1, .ref 908)]) hG [0, 1, 2, 3] rfl (by decide) rfl dX7_isWord_21 ?_
    refine z_sub (ls' := [(0, .ref 19), (1, .ref 908), (2, .int v1), (3, .int (0 : Int32))]) [2, 3, 1, 0] rfl ?_
    exact kwX7_isWord_908_22 hG hl0 v1 g hk (0 : Int32) h
  · replace h := zif_f hc h
    refine z_iconst (pc := 18) hG kc_0 dX7_isWord_18 ?_
    obtain rfl := Option.some.inj h
    exact z_iret (pc := 19) hG rfl rfl hk dX7_isWord_19
noncomputable def nX7_isSign (a1 : Int32) (g : zS) : Option Int32 :=
  (nX9_at (g.1 19 2) g).bind fun v1 => if v1 = a1 then (some ((1 : Int32))) else (some ((0 : Int32)))
set_option maxHeartbeats 60000 in
theorem tX7_isSign {l : Launch} (hl0 : l.flags = flags0) (a1 : Int32) (g : zS) {r : Int32} (h : nX7_isSign a1 g = some r) : zC l yX7_isSign cX7_isSign 2 ((Option.some Jvm.ClassFile.FieldType.boolean)) 1 0 0 [.ref 19, .int a1] zD g (.inl (some (.int r)), zD, g) := by
  refine zC_of hl0 rfl (Nat.le_of_ble_eq_true rfl) (fun x hG hxl hk _ => ?_)
  subst hxl
  show zK x 1 0 [(0, .ref 19), (1, .int a1)] [] zD g 0 0
  unfold nX7_isSign at h
  refine z_aload_n (pc := 0) hG 0 rfl rfl dX7_isSign_0 ?_
  refine z_getr (pc := 1) hG zc_X7 inX7 DL_19 0 rfl (by decide) rfl w598 dX7_isSign_1 ?_
  refine z_aload_n (pc := 4) hG 0 rfl rfl dX7_isSign_4 ?_
  refine z_geti (pc := 5) hG zc_X7 inX7 DL_19 2 rfl (by decide) rfl w600 dX7_isSign_5 ?_
  replace h := zbind h
  obtain ⟨v1, hv1, h⟩ := h
  refine z_cvI (pc := 8) (A' := 0) (B' := 0) hG [.int (g.1 19 2)] [] zc_X9 DL_1 (tX9_at hl0 (g.1 19 2) g hv1) zy_X9_at ⟨w1124, w1125⟩ w1123 dX7_isSign_8 rfl (Nat.le_of_ble_eq_true rfl) rfl rfl rfl (Nat.le_of_ble_eq_true rfl) rfl ?_
  refine z_iload_n (pc := 11) hG 1 rfl rfl dX7_isSign_11 ?_
  refine z_icmp_ne (pc := 12) (tgt := 19) hG dX7_isSign_12 rfl (fun hc => ?_) (fun hc => ?_)
  · replace h := zif_f hc h
    refine z_iconst (pc := 19) hG kc_0 dX7_isSign_19 ?_
    obtain rfl := Option.some.inj h
    exact z_iret (pc := 20) hG rfl rfl hk dX7_isSign_20
  · replace h := zif_t hc h
    refine z_iconst (pc := 15) hG kc_1 dX7_isSign_15 ?_
    refine z_goto (pc := 16) (tgt := 20) hG dX7_isSign_16 rfl ?_
    obtain rfl := Option.some.inj h
    exact z_iret (pc := 20) hG rfl rfl hk dX7_isSign_20
noncomputable def nX7_takes (a1 : Int32) (g : zS) : Option (Int32 × zS) :=
  (nX7_isSign a1 g).bind fun v1 => if v1 = 0 then (some (((0 : Int32), g))) else ((nX7_next g).bind fun v2 => some (((1 : Int32), v2)))
set_option maxHeartbeats 60000 in
theorem tX7_takes {l : Launch} (hl0 : l.flags = flags0) (a1 : Int32) (g : zS) {r : (Int32 × zS)} (h : nX7_takes a1 g = some r) : zC l yX7_takes cX7_takes 2 ((Option.some Jvm.ClassFile.FieldType.boolean)) 2 0 0 [.ref 19, .int a1] zD g (.inl (some (.int r.1)), zD, r.2) := by
  refine zC_of hl0 rfl (Nat.le_of_ble_eq_true rfl) (fun x hG hxl hk _ => ?_)
  subst hxl
  show zK x 2 0 [(0, .ref 19), (1, .int a1)] [] zD g 0 0
  unfold nX7_takes at h
  refine z_aload_n (pc := 0) hG 0 rfl rfl dX7_takes_0 ?_
  refine z_iload_n (pc := 1) hG 1 rfl rfl dX7_takes_1 ?_
  replace h := zbind h
  obtain ⟨v1, hv1, h⟩ := h
  refine z_cvI (pc := 2) (A' := 0) (B' := 0) hG [.int a1] [] zc_X7 DL_19 (tX7_isSign hl0 a1 g hv1) zy_X7_isSign ⟨w1202, wp38⟩ w1200 dX7_takes_2 rfl (Nat.le_of_ble_eq_true rfl) rfl rfl rfl (Nat.le_of_ble_eq_true rfl) rfl ?_
  refine z_if_ne (pc := 5) (tgt := 10) hG dX7_takes_5 rfl (fun hc => ?_) (fun hc => ?_)
  · replace h := zif_f hc h
    refine z_aload_n (pc := 10) hG 0 rfl rfl dX7_takes_10 ?_
    replace h := zbind h
    obtain ⟨v2, hv2, h⟩ := h
    refine z_cvV (pc := 11) (A' := 0) (B' := 0) hG [] [] zc_X7 DL_19 (tX7_next hl0  g hv2) zy_X7_next ⟨w1121, wp25⟩ w1119 dX7_takes_11 rfl (Nat.le_of_ble_eq_true rfl) rfl rfl rfl (Nat.le_of_ble_eq_true rfl) rfl ?_
    refine z_iconst (pc := 14) hG kc_1 dX7_takes_14 ?_
    obtain rfl := Option.some.inj h
    exact z_iret (pc := 15) hG rfl rfl hk dX7_takes_15
  · replace h := zif_t hc h
    refine z_iconst (pc := 8) hG kc_0 dX7_takes_8 ?_
    obtain rfl := Option.some.inj h
    exact z_iret (pc := 9) hG rfl rfl hk dX7_takes_9
noncomputable def nX7_takeNumber (a1 : Int32) (a2 : Int32) (g : zS) : Option (Int32 × zS) :=
  (nX9_at (g.1 19 2) g).bind fun v1 => if ((g.1 19 3) - (g.1 19 2)) = (1 : Int32) then (if (v1 - (48 : Int32)) < a1 then (some (((-1 : Int32), g))) else (if (v1 - (48 : Int32)) ≤ a2 then ((nX7_next g).bind fun v2 => some (((v1 - (48 : Int32)), v2))) else (some (((-1 : Int32), g))))) else (some (((-1 : Int32), g)))
set_option maxHeartbeats 60000 in
theorem tX7_takeNumber {l : Launch} (hl0 : l.flags = flags0) (a1 : Int32) (a2 : Int32) (g : zS) {r : (Int32 × zS)} (h : nX7_takeNumber a1 a2 g = some r) : zC l yX7_takeNumber cX7_takeNumber 4 ((Option.some Jvm.ClassFile.FieldType.int)) 2 0 0 [.ref 19, .int a1, .int a2] zD g (.inl (some (.int r.1)), zD, r.2) := by
  refine zC_of hl0 rfl (Nat.le_of_ble_eq_true rfl) (fun x hG hxl hk _ => ?_)
  subst hxl
  show zK x 2 0 [(0, .ref 19), (1, .int a1), (2, .int a2)] [] zD g 0 0
  unfold nX7_takeNumber at h
  refine z_aload_n (pc := 0) hG 0 rfl rfl dX7_takeNumber_0 ?_
  refine z_getr (pc := 1) hG zc_X7 inX7 DL_19 0 rfl (by decide) rfl w598 dX7_takeNumber_1 ?_
  refine z_aload_n (pc := 4) hG 0 rfl rfl dX7_takeNumber_4 ?_
  refine z_geti (pc := 5) hG zc_X7 inX7 DL_19 2 rfl (by decide) rfl w600 dX7_takeNumber_5 ?_
  replace h := zbind h
  obtain ⟨v1, hv1, h⟩ := h
  refine z_cvI (pc := 8) (A' := 0) (B' := 0) hG [.int (g.1 19 2)] [] zc_X9 DL_1 (tX9_at hl0 (g.1 19 2) g hv1) zy_X9_at ⟨w1124, w1125⟩ w1123 dX7_takeNumber_8 rfl (Nat.le_of_ble_eq_true rfl) rfl rfl rfl (Nat.le_of_ble_eq_true rfl) rfl ?_
  refine z_bipush (pc := 11) hG kb_48 dX7_takeNumber_11 ?_
  refine z_isub (pc := 13) hG dX7_takeNumber_13 ?_
  refine z_istore_n (pc := 14) (ls' := [(3, .int (v1 - (48 : Int32))), (0, .ref 19), (1, .int a1), (2, .int a2)]) hG [0, 1, 2, 3] rfl (by decide) rfl dX7_takeNumber_14 ?_
  refine z_aload_n (pc := 15) hG 1 rfl rfl dX7_takeNumber_15 ?_
  refine z_geti (pc := 16) hG zc_X7 inX7 DL_19 3 rfl (by decide) rfl w601 dX7_takeNumber_16 ?_
  refine z_aload_n (pc := 19) hG 1 rfl rfl dX7_takeNumber_19 ?_
  refine z_geti (pc := 20) hG zc_X7 inX7 DL_19 2 rfl (by decide) rfl w600 dX7_takeNumber_20 ?_
  refine z_isub (pc := 23) hG dX7_takeNumber_23 ?_
  refine z_iconst (pc := 24) hG kc_1 dX7_takeNumber_24 ?_
  refine z_icmp_ne (pc := 25) (tgt := 38) hG dX7_takeNumber_25 rfl (fun hc => ?_) (fun hc => ?_)
  · replace h := zif_f hc h
    refine z_iconst (pc := 38) hG kc_m1 dX7_takeNumber_38 ?_
    obtain rfl := Option.some.inj h
    exact z_iret (pc := 39) hG rfl rfl hk dX7_takeNumber_39
  · replace h := zif_t hc h
    refine z_iload_n (pc := 28) hG 0 rfl rfl dX7_takeNumber_28 ?_
    refine z_iload_n (pc := 29) hG 2 rfl rfl dX7_takeNumber_29 ?_
    refine z_icmp_lt (pc := 30) (tgt := 38) hG dX7_takeNumber_30 rfl (fun hc => ?_) (fun hc => ?_)
    · replace h := zif_t hc h
      refine z_iconst (pc := 38) hG kc_m1 dX7_takeNumber_38 ?_
      obtain rfl := Option.some.inj h
      exact z_iret (pc := 39) hG rfl rfl hk dX7_takeNumber_39
    · replace h := zif_f hc h
      refine z_iload_n (pc := 33) hG 0 rfl rfl dX7_takeNumber_33 ?_
      refine z_iload_n (pc := 34) hG 3 rfl rfl dX7_takeNumber_34 ?_
      refine z_icmp_le (pc := 35) (tgt := 40) hG dX7_takeNumber_35 rfl (fun hc => ?_) (fun hc => ?_)
      · replace h := zif_t hc h
        refine z_aload_n (pc := 40) hG 1 rfl rfl dX7_takeNumber_40 ?_
        replace h := zbind h
        obtain ⟨v2, hv2, h⟩ := h
        refine z_cvV (pc := 41) (A' := 0) (B' := 0) hG [] [] zc_X7 DL_19 (tX7_next hl0  g hv2) zy_X7_next ⟨w1121, wp25⟩ w1119 dX7_takeNumber_41 rfl (Nat.le_of_ble_eq_true rfl) rfl rfl rfl (Nat.le_of_ble_eq_true rfl) rfl ?_
        refine z_iload_n (pc := 44) hG 0 rfl rfl dX7_takeNumber_44 ?_
        obtain rfl := Option.some.inj h
        exact z_iret (pc := 45) hG rfl rfl hk dX7_takeNumber_45
      · replace h := zif_f hc h
        refine z_iconst (pc := 38) hG kc_m1 dX7_takeNumber_38 ?_
        obtain rfl := Option.some.inj h
        exact z_iret (pc := 39) hG rfl rfl hk dX7_takeNumber_39
noncomputable def nX1_withAnswer (a0 : Int32) (a1 : Int32) (a2 : Int32) : Option Int32 :=
  some (((a0 &&& (((7 : Int32) <<< (((3 : Int32) * a1) &&& 31)) ^^^ (-1 : Int32))) ||| ((a2 + (1 : Int32)) <<< (((3 : Int32) * a1) &&& 31))))
set_option maxHeartbeats 60000 in
theorem tX1_withAnswer {l : Launch} (hl0 : l.flags = flags0) (a0 : Int32) (a1 : Int32) (a2 : Int32) (g : zS) {r : Int32} (h : nX1_withAnswer a0 a1 a2 = some r) : zC l yX1_withAnswer cX1_withAnswer 4 ((Option.some Jvm.ClassFile.FieldType.int)) 0 0 0 [.int a0, .int a1, .int a2] zD g (.inl (some (.int r)), zD, g) := by
  refine zC_of hl0 rfl (Nat.le_of_ble_eq_true rfl) (fun x hG hxl hk _ => ?_)
  subst hxl
  show zK x 0 0 [(0, .int a0), (1, .int a1), (2, .int a2)] [] zD g 0 0
  unfold nX1_withAnswer at h
  refine z_iconst (pc := 0) hG kc_3 dX1_withAnswer_0 ?_
  refine z_iload_n (pc := 1) hG 1 rfl rfl dX1_withAnswer_1 ?_
  refine z_imul (pc := 2) hG dX1_withAnswer_2 ?_
  refine z_istore_n (pc := 3) (ls' := [(3, .int ((3 : Int32) * a1)), (0, .int a0), (1, .int a1), (2, .int a2)]) hG [0, 1, 2, 3] rfl (by decide) rfl dX1_withAnswer_3 ?_
  refine z_iload_n (pc := 4) hG 1 rfl rfl dX1_withAnswer_4 ?_
  refine z_bipush (pc := 5) hG kb_7 dX1_withAnswer_5 ?_
  refine z_iload_n (pc := 7) hG 0 rfl rfl dX1_withAnswer_7 ?_
  refine z_ishl (pc := 8) hG dX1_withAnswer_8 ?_
  refine z_iconst (pc := 9) hG kc_m1 dX1_withAnswer_9 ?_
  refine z_ixor (pc := 10) hG dX1_withAnswer_10 ?_
  refine z_iand (pc := 11) hG dX1_withAnswer_11 ?_
  refine z_iload_n (pc := 12) hG 3 rfl rfl dX1_withAnswer_12 ?_
  refine z_iconst (pc := 13) hG kc_1 dX1_withAnswer_13 ?_
  refine z_iadd (pc := 14) hG dX1_withAnswer_14 ?_
  refine z_iload_n (pc := 15) hG 0 rfl rfl dX1_withAnswer_15 ?_
  refine z_ishl (pc := 16) hG dX1_withAnswer_16 ?_
  refine z_ior (pc := 17) hG dX1_withAnswer_17 ?_
  obtain rfl := Option.some.inj h
  exact z_iret (pc := 18) hG rfl rfl hk dX1_withAnswer_18
noncomputable def wX7_readRow_8  (s : (Int32 × Int32 × zS)) : Option ((Int32 × Int32 × zS) ⊕ (Int32 × zS)) :=
  if (s.2.2.1 11 0) ≤ s.2.1 then (zex (zchk (zin (s.2.2.1 11 9) 40) (some (((1 : Int32), (zi (zi s.2.2 18 (s.2.2.1 11 9).toNatClampNeg s.1) 11 9 (((zi s.2.2 18 (s.2.2.1 11 9).toNatClampNeg s.1).1 11 9) + (1 : Int32)))))))) else ((nX7_takes (63 : Int32) s.2.2).bind fun v2 => if v2.1 = 0 then (zchk (zin s.2.1 5) ((nX7_takeNumber (0 : Int32) ((v2.2.1 12 s.2.1.toNatClampNeg) - (1 : Int32)) v2.2).bind fun v3 => if v3.1 = (-1 : Int32) then (zex (some (((0 : Int32), v3.2)))) else ((nX1_withAnswer s.1 s.2.1 v3.1).bind fun v4 => some (.inl (v4, (s.2.1 + (1 : Int32)), v3.2))))) else (some (.inl (s.1, (s.2.1 + (1 : Int32)), v2.2))))
noncomputable def nX7_readRow (g : zS) : Option (Int32 × zS) :=
  (nX7_next g).bind fun v1 => wh (wX7_readRow_8 ) ((0 : Int32), (0 : Int32), v1)
def qX7_readRow_8 (x : zXx)  (o : (Int32 × Int32 × zS) ⊕ (Int32 × zS)) : Prop := match o with
  | .inl s => zK x 3 8 [(0, .ref 19), (1, .int s.1), (2, .int s.2.1)] [] zD s.2.2 0 0
  | .inr r => ztg x = (.inl (some (.int r.1)), zD, r.2)
set_option maxHeartbeats 60000 in
theorem kwX7_readRow_8 {x : zXx} (hG : zG x cX7_readRow 4 RX7 ((Option.some Jvm.ClassFile.FieldType.boolean))) (hl0 : (zl0 x).flags = flags0)  {o : (Int32 × zS)} (hk : ztg x = (.inl (some (.int o.1)), zD, o.2)) : ∀ s : (Int32 × Int32 × zS), wh (wX7_readRow_8 ) s = some o → zK x 3 8 [(0, .ref 19), (1, .int s.1), (2, .int s.2.1)] [] zD s.2.2 0 0 := by
  refine wh_ind (fun s : (Int32 × Int32 × zS) => zK x 3 8 [(0, .ref 19), (1, .int s.1), (2, .int s.2.1)] [] zD s.2.2 0 0) (fun s o h hk2 => ?_)
  replace hk : qX7_readRow_8 x  o := by
    cases o with
    | inl s => exact hk2
    | inr r => subst hk2; exact hk
  clear hk2
  unfold wX7_readRow_8 at h
  refine z_iload_n (pc := 8) hG 2 rfl rfl dX7_readRow_8 ?_
  refine z_aload_n (pc := 9) hG 0 rfl rfl dX7_readRow_9 ?_
  refine z_getr (pc := 10) hG zc_X7 inX7 DL_19 1 rfl (by decide) rfl w599 dX7_readRow_10 ?_
  refine z_geti (pc := 13) hG zc_X6 inX6 DL_11 0 rfl (by decide) rfl w535 dX7_readRow_13 ?_
  refine z_icmp_ge (pc := 16) (tgt := 65) hG dX7_readRow_16 rfl (fun hc => ?_) (fun hc => ?_)
  · replace h := zif_t hc h
    replace h := zex_some h
    obtain ⟨o, h, rfl⟩ := h
    refine z_aload_n (pc := 65) hG 0 rfl rfl dX7_readRow_65 ?_
    refine z_getr (pc := 66) hG zc_X7 inX7 DL_19 1 rfl (by decide) rfl w599 dX7_readRow_66 ?_
    refine z_getr (pc := 69) hG zc_X6 inX6 DL_11 10 rfl (by decide) rfl w568 dX7_readRow_69 ?_
    refine z_aload_n (pc := 72) hG 0 rfl rfl dX7_readRow_72 ?_
    refine z_getr (pc := 73) hG zc_X7 inX7 DL_19 1 rfl (by decide) rfl w599 dX7_readRow_73 ?_
    refine z_geti (pc := 76) hG zc_X6 inX6 DL_11 9 rfl (by decide) rfl w565 dX7_readRow_76 ?_
    refine z_iload_n (pc := 79) hG 1 rfl rfl dX7_readRow_79 ?_
    replace h := zchk_some h
    obtain ⟨hc, h⟩ := h
    refine z_iast (pc := 80) hG DL_18 (zin_in hc) dX7_readRow_80 ?_
    refine z_aload_n (pc := 81) hG 0 rfl rfl dX7_readRow_81 ?_
    refine z_getr (pc := 82) hG zc_X7 inX7 DL_19 1 rfl (by decide) rfl w599 dX7_readRow_82 ?_
    refine z_dup (pc := 85) hG rfl dX7_readRow_85 ?_
    refine z_geti (pc := 86) hG zc_X6 inX6 DL_11 9 rfl (by decide) rfl w565 dX7_readRow_86 ?_
    refine z_iconst (pc := 89) hG kc_1 dX7_readRow_89 ?_
    refine z_iadd (pc := 90) hG dX7_readRow_90 ?_
    refine z_puti (pc := 91) hG zc_X6 inX6 tyX6 tyX6_ok nmX6 DL_11 9 rfl (by decide) rfl w565 rfl rfl rfl dX7_readRow_91 ?_
    refine z_iconst (pc := 94) hG kc_1 dX7_readRow_94 ?_
    obtain rfl := Option.some.inj h
    exact z_iret (pc := 95) hG rfl rfl hk dX7_readRow_95
  · replace h := zif_f hc h
    refine z_aload_n (pc := 19) hG 0 rfl rfl dX7_readRow_19 ?_
    refine z_bipush (pc := 20) hG kb_63 dX7_readRow_20 ?_
    replace h := zbind h
    obtain ⟨v2, hv2, h⟩ := h
    refine z_cvI (pc := 22) (A' := 0) (B' := 0) hG [.int (63 : Int32)] [] zc_X7 DL_19 (tX7_takes hl0 (63 : Int32) s.2.2 hv2) zy_X7_takes ⟨w1198, wp37⟩ w1196 dX7_readRow_22 rfl (Nat.le_of_ble_eq_true rfl) rfl rfl rfl (Nat.le_of_ble_eq_true rfl) rfl ?_
    refine z_if_ne (pc := 25) (tgt := 59) hG dX7_readRow_25 rfl (fun hc => ?_) (fun hc => ?_)
    · replace h := zif_f hc h
      refine z_iinc (pc := 59) (ls' := [(2, .int (s.2.1 + (1 : Int32))), (0, .ref 19), (1, .int s.1)]) hG 2 rfl [0, 1, 2] (ki_1 _) (by decide) rfl dX7_readRow_59 ?_
      refine z_goto (pc := 62) (tgt := 8) hG dX7_readRow_62 rfl ?_
      obtain rfl := Option.some.inj h
      refine z_sub (ls' := [(0, .ref 19), (1, .int s.1), (2, .int (s.2.1 + (1 : Int32)))]) [1, 2, 0] rfl ?_
      exact hk
    · replace h := zif_t hc h
      refine z_aload_n (pc := 28) hG 0 rfl rfl dX7_readRow_28 ?_
      refine z_iconst (pc := 29) hG kc_0 dX7_readRow_29 ?_
      refine z_aload_n (pc := 30) hG 0 rfl rfl dX7_readRow_30 ?_
      refine z_getr (pc := 31) hG zc_X7 inX7 DL_19 1 rfl (by decide) rfl w599 dX7_readRow_31 ?_
      refine z_getr (pc := 34) hG zc_X6 inX6 DL_11 1 rfl (by decide) rfl w540 dX7_readRow_34 ?_
      refine z_iload_n (pc := 37) hG 2 rfl rfl dX7_readRow_37 ?_
      replace h := zchk_some h
      obtain ⟨hc, h⟩ := h
      refine z_iald (pc := 38) hG DL_12 (zin_in hc) dX7_readRow_38 ?_
      refine z_iconst (pc := 39) hG kc_1 dX7_readRow_39 ?_
      refine z_isub (pc := 40) hG dX7_readRow_40 ?_
      replace h := zbind h
      obtain ⟨v3, hv3, h⟩ := h
      refine z_cvI (pc := 41) (A' := 0) (B' := 0) hG [.int (0 : Int32), .int ((v2.2.1 12 s.2.1.toNatClampNeg) - (1 : Int32))] [] zc_X7 DL_19 (tX7_takeNumber hl0 (0 : Int32) ((v2.2.1 12 s.2.1.toNatClampNeg) - (1 : Int32)) v2.2 hv3) zy_X7_takeNumber ⟨w1181, wp33⟩ w1179 dX7_readRow_41 rfl (Nat.le_of_ble_eq_true rfl) rfl rfl rfl (Nat.le_of_ble_eq_true rfl) rfl ?_
      refine z_istore_n (pc := 44) (ls' := [(3, .int v3.1), (0, .ref 19), (1, .int s.1), (2, .int s.2.1)]) hG [0, 1, 2, 3] rfl (by decide) rfl dX7_readRow_44 ?_
      refine z_iload_n (pc := 45) hG 0 rfl rfl dX7_readRow_45 ?_
      refine z_iconst (pc := 46) hG kc_m1 dX7_readRow_46 ?_
      refine z_icmp_ne (pc := 47) (tgt := 52) hG dX7_readRow_47 rfl (fun hc => ?_) (fun hc => ?_)
      · replace h := zif_f hc h
        refine z_iload_n (pc := 52) hG 2 rfl rfl dX7_readRow_52 ?_
        refine z_iload_n (pc := 53) hG 3 rfl rfl dX7_readRow_53 ?_
        refine z_iload_n (pc := 54) hG 0 rfl rfl dX7_readRow_54 ?_
        replace h := zbind h
        obtain ⟨v4, hv4, h⟩ := h
        refine z_csI (pc := 55) (A' := 0) (B' := 0) hG [.int s.1, .int s.2.1, .int v3.1] [] (tX1_withAnswer hl0 s.1 s.2.1 v3.1 v3.2 hv4) zy_X1_withAnswer w221 w1208 dX7_readRow_55 rfl (Nat.le_of_ble_eq_true rfl) rfl rfl rfl (Nat.le_of_ble_eq_true rfl) rfl ?_
        refine z_istore_n (pc := 58) (ls' := [(1, .int v4), (3, .int v3.1), (0, .ref 19), (2, .int s.2.1)]) hG [0, 1, 2, 3] rfl (by decide) rfl dX7_readRow_58 ?_
        refine z_iinc (pc := 59) (ls' := [(2, .int (s.2.1 + (1 : Int32))), (1, .int v4), (3, .int v3.1), (0, .ref 19)]) hG 3 rfl [0, 1, 2, 3] (ki_1 _) (by decide) rfl dX7_readRow_59 ?_
        refine z_goto (pc := 62) (tgt := 8) hG dX7_readRow_62 rfl ?_
        obtain rfl := Option.some.inj h
        refine z_sub (ls' := [(0, .ref 19), (1, .int v4), (2, .int (s.2.1 + (1 : Int32)))]) [3, 1, 0] rfl ?_
        exact hk
      · replace h := zif_t hc h
        replace h := zex_some h
        obtain ⟨o, h, rfl⟩ := h
        refine z_iconst (pc := 50) hG kc_0 dX7_readRow_50 ?_
        obtain rfl := Option.some.inj h
        exact z_iret (pc := 51) hG rfl rfl hk dX7_readRow_51
set_option maxHeartbeats 60000 in
theorem tX7_readRow {l : Launch} (hl0 : l.flags = flags0) (g : zS) {r : (Int32 × zS)} (h : nX7_readRow g = some r) : zC l yX7_readRow cX7_readRow 4 ((Option.some Jvm.ClassFile.FieldType.boolean)) 3 0 0 [.ref 19] zD g (.inl (some (.int r.1)), zD, r.2) := by
  refine zC_of hl0 rfl (Nat.le_of_ble_eq_true rfl) (fun x hG hxl hk _ => ?_)
  subst hxl
  show zK x 3 0 [(0, .ref 19)] [] zD g 0 0
  unfold nX7_readRow at h
  refine z_iconst (pc := 0) hG kc_0 dX7_readRow_0 ?_
  refine z_istore_n (pc := 1) (ls' := [(1, .int (0 : Int32)), (0, .ref 19)]) hG [0, 1] rfl (by decide) rfl dX7_readRow_1 ?_
  refine z_aload_n (pc := 2) hG 1 rfl rfl dX7_readRow_2 ?_
  replace h := zbind h
  obtain ⟨v1, hv1, h⟩ := h
  refine z_cvV (pc := 3) (A' := 0) (B' := 0) hG [] [] zc_X7 DL_19 (tX7_next hl0  g hv1) zy_X7_next ⟨w1121, wp25⟩ w1119 dX7_readRow_3 rfl (Nat.le_of_ble_eq_true rfl) rfl rfl rfl (Nat.le_of_ble_eq_true rfl) rfl ?_
  refine z_iconst (pc := 6) hG kc_0 dX7_readRow_6 ?_
  refine z_istore_n (pc := 7) (ls' := [(2, .int (0 : Int32)), (1, .int (0 : Int32)), (0, .ref 19)]) hG [0, 1, 2] rfl (by decide) rfl dX7_readRow_7 ?_
  refine z_sub (ls' := [(0, .ref 19), (1, .int (0 : Int32)), (2, .int (0 : Int32))]) [2, 1, 0] rfl ?_
  exact kwX7_readRow_8 hG hl0  hk ((0 : Int32), (0 : Int32), v1) h
noncomputable def nX6_letter_d (a1 : Int32) (a2 : Int32) (g : zS) : Option Int32 :=
  if a2 < 0 then (some ((-1 : Int32))) else (zchk (zin a1 5) (if a2 < (g.1 16 a1.toNatClampNeg) then (zchk (zin ((a1 * (6 : Int32)) + a2) 30) (some ((g.1 15 ((a1 * (6 : Int32)) + a2).toNatClampNeg)))) else (some ((-1 : Int32)))))
set_option maxHeartbeats 60000 in
theorem tX6_letter_d {l : Launch} (hl0 : l.flags = flags0) (a1 : Int32) (a2 : Int32) (g : zS) {r : Int32} (h : nX6_letter_d a1 a2 g = some r) : zC l yX6_letter cX6_letter 3 ((Option.some Jvm.ClassFile.FieldType.int)) 0 0 0 [.ref 11, .int a1, .int a2] zD g (.inl (some (.int r)), zD, g) := by
  refine zC_of hl0 rfl (Nat.le_of_ble_eq_true rfl) (fun x hG hxl hk _ => ?_)
  subst hxl
  show zK x 0 0 [(0, .ref 11), (1, .int a1), (2, .int a2)] [] zD g 0 0
  unfold nX6_letter_d at h
  refine z_iload_n (pc := 0) hG 2 rfl rfl dX6_letter_0 ?_
  refine z_if_lt (pc := 1) (tgt := 14) hG dX6_letter_1 rfl (fun hc => ?_) (fun hc => ?_)
  · replace h := zif_t hc h
    refine z_iconst (pc := 14) hG kc_m1 dX6_letter_14 ?_
    refine z_goto (pc := 15) (tgt := 29) hG dX6_letter_15 rfl ?_
    obtain rfl := Option.some.inj h
    exact z_iret (pc := 29) hG rfl rfl hk dX6_letter_29
  · replace h := zif_f hc h
    refine z_iload_n (pc := 4) hG 2 rfl rfl dX6_letter_4 ?_
    refine z_aload_n (pc := 5) hG 0 rfl rfl dX6_letter_5 ?_
    refine z_getr (pc := 6) hG zc_X6 inX6 DL_11 5 rfl (by decide) rfl w551 dX6_letter_6 ?_
    refine z_iload_n (pc := 9) hG 1 rfl rfl dX6_letter_9 ?_
    replace h := zchk_some h
    obtain ⟨hc, h⟩ := h
    refine z_iald (pc := 10) hG DL_16 (zin_in hc) dX6_letter_10 ?_
    refine z_icmp_lt (pc := 11) (tgt := 18) hG dX6_letter_11 rfl (fun hc => ?_) (fun hc => ?_)
    · replace h := zif_t hc h
      refine z_aload_n (pc := 18) hG 0 rfl rfl dX6_letter_18 ?_
      refine z_getr (pc := 19) hG zc_X6 inX6 DL_11 4 rfl (by decide) rfl w549 dX6_letter_19 ?_
      refine z_iload_n (pc := 22) hG 1 rfl rfl dX6_letter_22 ?_
      refine z_bipush (pc := 23) hG kb_6 dX6_letter_23 ?_
      refine z_imul (pc := 25) hG dX6_letter_25 ?_
      refine z_iload_n (pc := 26) hG 2 rfl rfl dX6_letter_26 ?_
      refine z_iadd (pc := 27) hG dX6_letter_27 ?_
      replace h := zchk_some h
      obtain ⟨hc, h⟩ := h
      refine z_bald (pc := 28) hG DL_15 (zin_in hc) dX6_letter_28 ?_
      obtain rfl := Option.some.inj h
      exact z_iret (pc := 29) hG rfl rfl hk dX6_letter_29
    · replace h := zif_f hc h
      refine z_iconst (pc := 14) hG kc_m1 dX6_letter_14 ?_
      refine z_goto (pc := 15) (tgt := 29) hG dX6_letter_15 rfl ?_
      obtain rfl := Option.some.inj h
      exact z_iret (pc := 29) hG rfl rfl hk dX6_letter_29
noncomputable def wX7_isNameOf_27 (a1 : Int32) (a2 : Int32) (g : zS) (s : Int32) : Option (Int32 ⊕ Int32) :=
  if a2 ≤ s then (zex (some ((1 : Int32)))) else ((nX9_at ((g.1 19 2) + s) g).bind fun v1 => (nX6_letter_d a1 s g).bind fun v2 => if v1 = v2 then (some (.inl (s + (1 : Int32)))) else (zex (some ((0 : Int32)))))
noncomputable def nX7_isNameOf (a1 : Int32) (g : zS) : Option Int32 :=
  zchk (zin a1 5) (if ((g.1 19 3) - (g.1 19 2)) = (g.1 16 a1.toNatClampNeg) then (wh (wX7_isNameOf_27 a1 (g.1 16 a1.toNatClampNeg) g) (0 : Int32)) else (some ((0 : Int32))))
def qX7_isNameOf_27 (x : zXx) (a1 : Int32) (a2 : Int32) (g : zS) (o : Int32 ⊕ Int32) : Prop := match o with
  | .inl s => zK x 1 27 [(0, .ref 19), (1, .int a1), (2, .int a2), (3, .int s)] [] zD g 0 0
  | .inr r => ztg x = (.inl (some (.int r)), zD, g)
set_option maxHeartbeats 60000 in
theorem kwX7_isNameOf_27 {x : zXx} (hG : zG x cX7_isNameOf 4 RX7 ((Option.some Jvm.ClassFile.FieldType.boolean))) (hl0 : (zl0 x).flags = flags0) (a1 : Int32) (a2 : Int32) (g : zS) {o : Int32} (hk : ztg x = (.inl (some (.int o)), zD, g)) : ∀ s : Int32, wh (wX7_isNameOf_27 a1 a2 g) s = some o → zK x 1 27 [(0, .ref 19), (1, .int a1), (2, .int a2), (3, .int s)] [] zD g 0 0 := by
  refine wh_ind (fun s : Int32 => zK x 1 27 [(0, .ref 19), (1, .int a1), (2, .int a2), (3, .int s)] [] zD g 0 0) (fun s o h hk2 => ?_)
  replace hk : qX7_isNameOf_27 x a1 a2 g o := by
    cases o with
    | inl s => exact hk2
    | inr r => subst hk2; exact hk
  clear hk2
  unfold wX7_isNameOf_27 at h
  refine z_iload_n (pc := 27) hG 3 rfl rfl dX7_isNameOf_27 ?_
  refine z_iload_n (pc := 28) hG 2 rfl rfl dX7_isNameOf_28 ?_
  refine z_icmp_ge (pc := 29) (tgt := 65) hG dX7_isNameOf_29 rfl (fun hc => ?_) (fun hc => ?_)
  · replace h := zif_t hc h
    replace h := zex_some h
    obtain ⟨o, h, rfl⟩ := h
    refine z_iconst (pc := 65) hG kc_1 dX7_isNameOf_65 ?_
    obtain rfl := Option.some.inj h
    exact z_iret (pc := 66) hG rfl rfl hk dX7_isNameOf_66
  · replace h := zif_f hc h
    refine z_aload_n (pc := 32) hG 0 rfl rfl dX7_isNameOf_32 ?_
    refine z_getr (pc := 33) hG zc_X7 inX7 DL_19 0 rfl (by decide) rfl w598 dX7_isNameOf_33 ?_
    refine z_aload_n (pc := 36) hG 0 rfl rfl dX7_isNameOf_36 ?_
    refine z_geti (pc := 37) hG zc_X7 inX7 DL_19 2 rfl (by decide) rfl w600 dX7_isNameOf_37 ?_
    refine z_iload_n (pc := 40) hG 3 rfl rfl dX7_isNameOf_40 ?_
    refine z_iadd (pc := 41) hG dX7_isNameOf_41 ?_
    replace h := zbind h
    obtain ⟨v1, hv1, h⟩ := h
    refine z_cvI (pc := 42) (A' := 0) (B' := 0) hG [.int ((g.1 19 2) + s)] [] zc_X9 DL_1 (tX9_at hl0 ((g.1 19 2) + s) g hv1) zy_X9_at ⟨w1124, w1125⟩ w1123 dX7_isNameOf_42 rfl (Nat.le_of_ble_eq_true rfl) rfl rfl rfl (Nat.le_of_ble_eq_true rfl) rfl ?_
    refine z_aload_n (pc := 45) hG 0 rfl rfl dX7_isNameOf_45 ?_
    refine z_getr (pc := 46) hG zc_X7 inX7 DL_19 1 rfl (by decide) rfl w599 dX7_isNameOf_46 ?_
    refine z_iload_n (pc := 49) hG 1 rfl rfl dX7_isNameOf_49 ?_
    refine z_iload_n (pc := 50) hG 3 rfl rfl dX7_isNameOf_50 ?_
    replace h := zbind h
    obtain ⟨v2, hv2, h⟩ := h
    refine z_cvI (pc := 51) (A' := 0) (B' := 0) hG [.int a1, .int s] [.int v1] zc_X6 DL_11 (tX6_letter_d hl0 a1 s g hv2) zy_X6_letter ⟨w1172, w1173⟩ w1171 dX7_isNameOf_51 rfl (Nat.le_of_ble_eq_true rfl) rfl rfl rfl (Nat.le_of_ble_eq_true rfl) rfl ?_
    refine z_icmp_eq (pc := 54) (tgt := 59) hG dX7_isNameOf_54 rfl (fun hc => ?_) (fun hc => ?_)
    · replace h := zif_t hc h
      refine z_iinc (pc := 59) (ls' := [(3, .int (s + (1 : Int32))), (0, .ref 19), (1, .int a1), (2, .int a2)]) hG 3 rfl [0, 1, 2, 3] (ki_1 _) (by decide) rfl dX7_isNameOf_59 ?_
      refine z_goto (pc := 62) (tgt := 27) hG dX7_isNameOf_62 rfl ?_
      obtain rfl := Option.some.inj h
      refine z_sub (ls' := [(0, .ref 19), (1, .int a1), (2, .int a2), (3, .int (s + (1 : Int32)))]) [1, 2, 3, 0] rfl ?_
      exact hk
    · replace h := zif_f hc h
      replace h := zex_some h
      obtain ⟨o, h, rfl⟩ := h
      refine z_iconst (pc := 57) hG kc_0 dX7_isNameOf_57 ?_
      obtain rfl := Option.some.inj h
      exact z_iret (pc := 58) hG rfl rfl hk dX7_isNameOf_58
set_option maxHeartbeats 60000 in
theorem tX7_isNameOf {l : Launch} (hl0 : l.flags = flags0) (a1 : Int32) (g : zS) {r : Int32} (h : nX7_isNameOf a1 g = some r) : zC l yX7_isNameOf cX7_isNameOf 4 ((Option.some Jvm.ClassFile.FieldType.boolean)) 1 0 0 [.ref 19, .int a1] zD g (.inl (some (.int r)), zD, g) := by
  refine zC_of hl0 rfl (Nat.le_of_ble_eq_true rfl) (fun x hG hxl hk _ => ?_)
  subst hxl
  show zK x 1 0 [(0, .ref 19), (1, .int a1)] [] zD g 0 0
  unfold nX7_isNameOf at h
  refine z_aload_n (pc := 0) hG 0 rfl rfl dX7_isNameOf_0 ?_
  refine z_getr (pc := 1) hG zc_X7 inX7 DL_19 1 rfl (by decide) rfl w599 dX7_isNameOf_1 ?_
  refine z_getr (pc := 4) hG zc_X6 inX6 DL_11 5 rfl (by decide) rfl w552 dX7_isNameOf_4 ?_
  refine z_iload_n (pc := 7) hG 1 rfl rfl dX7_isNameOf_7 ?_
  replace h := zchk_some h
  obtain ⟨hc, h⟩ := h
  refine z_iald (pc := 8) hG DL_16 (zin_in hc) dX7_isNameOf_8 ?_
  refine z_istore_n (pc := 9) (ls' := [(2, .int (g.1 16 a1.toNatClampNeg)), (0, .ref 19), (1, .int a1)]) hG [0, 1, 2] rfl (by decide) rfl dX7_isNameOf_9 ?_
  refine z_aload_n (pc := 10) hG 1 rfl rfl dX7_isNameOf_10 ?_
  refine z_geti (pc := 11) hG zc_X7 inX7 DL_19 3 rfl (by decide) rfl w601 dX7_isNameOf_11 ?_
  refine z_aload_n (pc := 14) hG 1 rfl rfl dX7_isNameOf_14 ?_
  refine z_geti (pc := 15) hG zc_X7 inX7 DL_19 2 rfl (by decide) rfl w600 dX7_isNameOf_15 ?_
  refine z_isub (pc := 18) hG dX7_isNameOf_18 ?_
  refine z_iload_n (pc := 19) hG 0 rfl rfl dX7_isNameOf_19 ?_
  refine z_icmp_eq (pc := 20) (tgt := 25) hG dX7_isNameOf_20 rfl (fun hc => ?_) (fun hc => ?_)
  · replace h := zif_t hc h
    refine z_iconst (pc := 25) hG kc_0 dX7_isNameOf_25 ?_
    refine z_istore_n (pc := 26) (ls' := [(3, .int (0 : Int32)), (2, .int (g.1 16 a1.toNatClampNeg)), (0, .ref 19), (1, .int a1)]) hG [0, 1, 2, 3] rfl (by decide) rfl dX7_isNameOf_26 ?_
    refine z_sub (ls' := [(0, .ref 19), (1, .int a1), (2, .int (g.1 16 a1.toNatClampNeg)), (3, .int (0 : Int32))]) [2, 3, 1, 0] rfl ?_
    exact kwX7_isNameOf_27 hG hl0 a1 (g.1 16 a1.toNatClampNeg) g hk (0 : Int32) h
  · replace h := zif_f hc h
    refine z_iconst (pc := 23) hG kc_0 dX7_isNameOf_23 ?_
    obtain rfl := Option.some.inj h
    exact z_iret (pc := 24) hG rfl rfl hk dX7_isNameOf_24
noncomputable def wX7_toldField_2 (g : zS) (s : Int32) : Option (Int32 ⊕ Int32) :=
  if (g.1 11 0) ≤ s then (zex (some ((-1 : Int32)))) else ((nX7_isNameOf s g).bind fun v1 => if v1 = 0 then (some (.inl (s + (1 : Int32)))) else (zex (some (s))))
noncomputable def nX7_toldField (g : zS) : Option Int32 :=
  wh (wX7_toldField_2 g) (0 : Int32)
def qX7_toldField_2 (x : zXx) (g : zS) (o : Int32 ⊕ Int32) : Prop := match o with
  | .inl s => zK x 2 2 [(0, .ref 19), (1, .int s)] [] zD g 0 0
  | .inr r => ztg x = (.inl (some (.int r)), zD, g)
set_option maxHeartbeats 60000 in
theorem kwX7_toldField_2 {x : zXx} (hG : zG x cX7_toldField 2 RX7 ((Option.some Jvm.ClassFile.FieldType.int))) (hl0 : (zl0 x).flags = flags0) (g : zS) {o : Int32} (hk : ztg x = (.inl (some (.int o)), zD, g)) : ∀ s : Int32, wh (wX7_toldField_2 g) s = some o → zK x 2 2 [(0, .ref 19), (1, .int s)] [] zD g 0 0 := by
  refine wh_ind (fun s : Int32 => zK x 2 2 [(0, .ref 19), (1, .int s)] [] zD g 0 0) (fun s o h hk2 => ?_)
  replace hk : qX7_toldField_2 x g o := by
    cases o with
    | inl s => exact hk2
    | inr r => subst hk2; exact hk
  clear hk2
  unfold wX7_toldField_2 at h
  refine z_iload_n (pc := 2) hG 1 rfl rfl dX7_toldField_2 ?_
  refine z_aload_n (pc := 3) hG 0 rfl rfl dX7_toldField_3 ?_
  refine z_getr (pc := 4) hG zc_X7 inX7 DL_19 1 rfl (by decide) rfl w599 dX7_toldField_4 ?_
  refine z_geti (pc := 7) hG zc_X6 inX6 DL_11 0 rfl (by decide) rfl w535 dX7_toldField_7 ?_
  refine z_icmp_ge (pc := 10) (tgt := 29) hG dX7_toldField_10 rfl (fun hc => ?_) (fun hc => ?_)
  · replace h := zif_t hc h
    replace h := zex_some h
    obtain ⟨o, h, rfl⟩ := h
    refine z_iconst (pc := 29) hG kc_m1 dX7_toldField_29 ?_
    obtain rfl := Option.some.inj h
    exact z_iret (pc := 30) hG rfl rfl hk dX7_toldField_30
  · replace h := zif_f hc h
    refine z_aload_n (pc := 13) hG 0 rfl rfl dX7_toldField_13 ?_
    refine z_iload_n (pc := 14) hG 1 rfl rfl dX7_toldField_14 ?_
    replace h := zbind h
    obtain ⟨v1, hv1, h⟩ := h
    refine z_cvI (pc := 15) (A' := 0) (B' := 0) hG [.int s] [] zc_X7 DL_19 (tX7_isNameOf hl0 s g hv1) zy_X7_isNameOf ⟨w1169, wp31⟩ w1167 dX7_toldField_15 rfl (Nat.le_of_ble_eq_true rfl) rfl rfl rfl (Nat.le_of_ble_eq_true rfl) rfl ?_
    refine z_if_eq (pc := 18) (tgt := 23) hG dX7_toldField_18 rfl (fun hc => ?_) (fun hc => ?_)
    · replace h := zif_t hc h
      refine z_iinc (pc := 23) (ls' := [(1, .int (s + (1 : Int32))), (0, .ref 19)]) hG 1 rfl [0, 1] (ki_1 _) (by decide) rfl dX7_toldField_23 ?_
      refine z_goto (pc := 26) (tgt := 2) hG dX7_toldField_26 rfl ?_
      obtain rfl := Option.some.inj h
      refine z_sub (ls' := [(0, .ref 19), (1, .int (s + (1 : Int32)))]) [1, 0] rfl ?_
      exact hk
    · replace h := zif_f hc h
      replace h := zex_some h
      obtain ⟨o, h, rfl⟩ := h
      refine z_iload_n (pc := 21) hG 1 rfl rfl dX7_toldField_21 ?_
      obtain rfl := Option.some.inj h
      exact z_iret (pc := 22) hG rfl rfl hk dX7_toldField_22
set_option maxHeartbeats 60000 in
theorem tX7_toldField {l : Launch} (hl0 : l.flags = flags0) (g : zS) {r : Int32} (h : nX7_toldField g = some r) : zC l yX7_toldField cX7_toldField 2 ((Option.some Jvm.ClassFile.FieldType.int)) 2 0 0 [.ref 19] zD g (.inl (some (.int r)), zD, g) := by
  refine zC_of hl0 rfl (Nat.le_of_ble_eq_true rfl) (fun x hG hxl hk _ => ?_)
  subst hxl
  show zK x 2 0 [(0, .ref 19)] [] zD g 0 0
  unfold nX7_toldField at h
  refine z_iconst (pc := 0) hG kc_0 dX7_toldField_0 ?_
  refine z_istore_n (pc := 1) (ls' := [(1, .int (0 : Int32)), (0, .ref 19)]) hG [0, 1] rfl (by decide) rfl dX7_toldField_1 ?_
  refine z_sub (ls' := [(0, .ref 19), (1, .int (0 : Int32))]) [1, 0] rfl ?_
  exact kwX7_toldField_2 hG hl0 g hk (0 : Int32) h
noncomputable def nJ0_coder_7d493_907 : Option Int32 :=
  if (1 : Int32) = 0 then (some ((1 : Int32))) else (some ((0 : Int32)))
set_option maxHeartbeats 60000 in
theorem tJ0_coder_7d493_907 {l : Launch} (hl0 : l.flags = flags0) (g : zS) {r : Int32} (h : nJ0_coder_7d493_907  = some r) : zC l yJ0_coder_7d493 cJ0_coder_7d493 1 ((Option.some Jvm.ClassFile.FieldType.byte)) 0 0 0 [.ref 907] zD g (.inl (some (.int r)), zD, g) := by
  refine zC_of hl0 rfl (Nat.le_of_ble_eq_true rfl) (fun x hG hxl hk _ => ?_)
  subst hxl
  show zK x 0 0 [(0, .ref 907)] [] zD g 0 0
  unfold nJ0_coder_7d493_907 at h
  refine z_cstr (pc := 0) hG w915 dJ0_coder_7d493_0 ?_
  refine z_if_eq (pc := 3) (tgt := 13) hG dJ0_coder_7d493_3 rfl (fun hc => ?_) (fun hc => ?_)
  · replace h := zif_t hc h
    refine z_iconst (pc := 13) hG kc_1 dJ0_coder_7d493_13 ?_
    obtain rfl := Option.some.inj h
    exact z_iret (pc := 14) hG rfl rfl hk dJ0_coder_7d493_14
  · replace h := zif_f hc h
    refine z_aload_n (pc := 6) hG 0 rfl rfl dJ0_coder_7d493_6 ?_
    refine z_scod (pc := 7) (q := 907) hG rfl w1060 dJ0_coder_7d493_7 ?_
    refine z_goto (pc := 10) (tgt := 14) hG dJ0_coder_7d493_10 rfl ?_
    obtain rfl := Option.some.inj h
    exact z_iret (pc := 14) hG rfl rfl hk dJ0_coder_7d493_14
noncomputable def nJ0_length_8abf5_907 : Option Int32 :=
  (nJ0_coder_7d493_907 ).bind fun v1 => some (((nI (slen.getD (zsj 907) 0)) >>> (v1 &&& 31)))
set_option maxHeartbeats 60000 in
theorem tJ0_length_8abf5_907 {l : Launch} (hl0 : l.flags = flags0) (g : zS) {r : Int32} (h : nJ0_length_8abf5_907  = some r) : zC l yJ0_length_8abf5 cJ0_length_8abf5 1 ((Option.some Jvm.ClassFile.FieldType.int)) 1 0 0 [.ref 907] zD g (.inl (some (.int r)), zD, g) := by
  refine zC_of hl0 rfl (Nat.le_of_ble_eq_true rfl) (fun x hG hxl hk _ => ?_)
  subst hxl
  show zK x 1 0 [(0, .ref 907)] [] zD g 0 0
  unfold nJ0_length_8abf5_907 at h
  refine z_aload_n (pc := 0) hG 0 rfl rfl dJ0_length_8abf5_0 ?_
  refine z_sval (pc := 1) (q := 907) hG rfl w1059 dJ0_length_8abf5_1 ?_
  refine z_slen (pc := 4) (q := 907) hG rfl rfl dJ0_length_8abf5_4 ?_
  refine z_aload_n (pc := 5) hG 0 rfl rfl dJ0_length_8abf5_5 ?_
  replace h := zbind h
  obtain ⟨v1, hv1, h⟩ := h
  refine z_cvSI (pc := 6) (A' := 0) (B' := 0) hG [] [.int (nI (slen.getD (zsj 907) 0))] (rfl : zsq 907 = true) (tJ0_coder_7d493_907 hl0  g hv1) zy_J0_coder_7d493 ⟨w912, w913⟩ w911 dJ0_length_8abf5_6 rfl (Nat.le_of_ble_eq_true rfl) rfl rfl rfl (Nat.le_of_ble_eq_true rfl) rfl ?_
  refine z_ishr (pc := 9) hG dJ0_length_8abf5_9 ?_
  obtain rfl := Option.some.inj h
  exact z_iret (pc := 10) hG rfl rfl hk dJ0_length_8abf5_10
noncomputable def nJ0_isLatin1_aae02_907 : Option Int32 :=
  if (1 : Int32) = 0 then (some ((0 : Int32))) else (if (0 : Int32) = 0 then (some ((1 : Int32))) else (some ((0 : Int32))))
set_option maxHeartbeats 60000 in
theorem tJ0_isLatin1_aae02_907 {l : Launch} (hl0 : l.flags = flags0) (g : zS) {r : Int32} (h : nJ0_isLatin1_aae02_907  = some r) : zC l yJ0_isLatin1_aae02 cJ0_isLatin1_aae02 1 ((Option.some Jvm.ClassFile.FieldType.boolean)) 0 0 0 [.ref 907] zD g (.inl (some (.int r)), zD, g) := by
  refine zC_of hl0 rfl (Nat.le_of_ble_eq_true rfl) (fun x hG hxl hk _ => ?_)
  subst hxl
  show zK x 0 0 [(0, .ref 907)] [] zD g 0 0
  unfold nJ0_isLatin1_aae02_907 at h
  refine z_cstr (pc := 0) hG w915 dJ0_isLatin1_aae02_0 ?_
  refine z_if_eq (pc := 3) (tgt := 17) hG dJ0_isLatin1_aae02_3 rfl (fun hc => ?_) (fun hc => ?_)
  · replace h := zif_t hc h
    refine z_iconst (pc := 17) hG kc_0 dJ0_isLatin1_aae02_17 ?_
    obtain rfl := Option.some.inj h
    exact z_iret (pc := 18) hG rfl rfl hk dJ0_isLatin1_aae02_18
  · replace h := zif_f hc h
    refine z_aload_n (pc := 6) hG 0 rfl rfl dJ0_isLatin1_aae02_6 ?_
    refine z_scod (pc := 7) (q := 907) hG rfl w1060 dJ0_isLatin1_aae02_7 ?_
    refine z_if_ne (pc := 10) (tgt := 17) hG dJ0_isLatin1_aae02_10 rfl (fun hc => ?_) (fun hc => ?_)
    · replace h := zif_f hc h
      refine z_iconst (pc := 17) hG kc_0 dJ0_isLatin1_aae02_17 ?_
      obtain rfl := Option.some.inj h
      exact z_iret (pc := 18) hG rfl rfl hk dJ0_isLatin1_aae02_18
    · replace h := zif_t hc h
      refine z_iconst (pc := 13) hG kc_1 dJ0_isLatin1_aae02_13 ?_
      refine z_goto (pc := 14) (tgt := 18) hG dJ0_isLatin1_aae02_14 rfl ?_
      obtain rfl := Option.some.inj h
      exact z_iret (pc := 18) hG rfl rfl hk dJ0_isLatin1_aae02_18
noncomputable def nJ1_charAt_3b067_927 (a1 : Int32) : Option Int32 :=
  (nJ0_checkIndex_df160 a1 (nI (slen.getD (zsj 907) 0))).bind fun v1 => zchk (zin a1 (slen.getD (zsj 907) 0)) (zchk (znc ((((sbyt.getD (zsj 907) []).getD a1.toNatClampNeg 0) &&& (255 : Int32)).toUInt32 % 65536).toInt32) (some (((((sbyt.getD (zsj 907) []).getD a1.toNatClampNeg 0) &&& (255 : Int32)).toUInt32 % 65536).toInt32)))
set_option maxHeartbeats 60000 in
theorem tJ1_charAt_3b067_927 {l : Launch} (hl0 : l.flags = flags0) (a1 : Int32) (g : zS) {r : Int32} (h : nJ1_charAt_3b067_927 a1 = some r) : zC l yJ1_charAt_3b067 cJ1_charAt_3b067 2 ((Option.some Jvm.ClassFile.FieldType.char)) 2 0 0 [.ref 927, .int a1] zD g (.inl (some (.int r)), zD, g) := by
  refine zC_of hl0 rfl (Nat.le_of_ble_eq_true rfl) (fun x hG hxl hk _ => ?_)
  subst hxl
  show zK x 2 0 [(0, .ref 927), (1, .int a1)] [] zD g 0 0
  unfold nJ1_charAt_3b067_927 at h
  refine z_iload_n (pc := 0) hG 1 rfl rfl dJ1_charAt_3b067_0 ?_
  refine z_aload_n (pc := 1) hG 0 rfl rfl dJ1_charAt_3b067_1 ?_
  refine z_slen (pc := 2) (q := 907) hG rfl rfl dJ1_charAt_3b067_2 ?_
  replace h := zbind h
  obtain ⟨v1, hv1, h⟩ := h
  refine z_csV (pc := 3) (A' := 0) (B' := 0) hG [.int a1, .int (nI (slen.getD (zsj 907) 0))] [] (tJ0_checkIndex_df160 hl0 a1 (nI (slen.getD (zsj 907) 0)) g hv1) zy_J0_checkIndex_df160 w967 w1091 dJ1_charAt_3b067_3 rfl (Nat.le_of_ble_eq_true rfl) rfl rfl rfl (Nat.le_of_ble_eq_true rfl) rfl ?_
  refine z_aload_n (pc := 6) hG 0 rfl rfl dJ1_charAt_3b067_6 ?_
  refine z_iload_n (pc := 7) hG 1 rfl rfl dJ1_charAt_3b067_7 ?_
  replace h := zchk_some h
  obtain ⟨hc, h⟩ := h
  refine z_sbyt (pc := 8) (q := 907) hG rfl rfl (zin_in hc) dJ1_charAt_3b067_8 ?_
  refine z_sipush (pc := 9) hG ks_255 dJ1_charAt_3b067_9 ?_
  refine z_iand (pc := 12) hG dJ1_charAt_3b067_12 ?_
  refine z_i2c (pc := 13) hG dJ1_charAt_3b067_13 ?_
  replace h := zchk_some h
  obtain ⟨hc, h⟩ := h
  obtain rfl := Option.some.inj h
  exact z_iret (pc := 14) hG rfl (znc_n hc) hk dJ1_charAt_3b067_14
noncomputable def nJ0_charAt_5068e_907 (a1 : Int32) : Option Int32 :=
  (nJ0_isLatin1_aae02_907 ).bind fun v1 => if v1 = 0 then (none) else ((nJ1_charAt_3b067_927 a1).bind fun v2 => zchk (znc v2) (some (v2)))
set_option maxHeartbeats 60000 in
theorem tJ0_charAt_5068e_907 {l : Launch} (hl0 : l.flags = flags0) (a1 : Int32) (g : zS) {r : Int32} (h : nJ0_charAt_5068e_907 a1 = some r) : zC l yJ0_charAt_5068e cJ0_charAt_5068e 2 ((Option.some Jvm.ClassFile.FieldType.char)) 3 0 0 [.ref 907, .int a1] zD g (.inl (some (.int r)), zD, g) := by
  refine zC_of hl0 rfl (Nat.le_of_ble_eq_true rfl) (fun x hG hxl hk _ => ?_)
  subst hxl
  show zK x 3 0 [(0, .ref 907), (1, .int a1)] [] zD g 0 0
  unfold nJ0_charAt_5068e_907 at h
  refine z_aload_n (pc := 0) hG 0 rfl rfl dJ0_charAt_5068e_0 ?_
  replace h := zbind h
  obtain ⟨v1, hv1, h⟩ := h
  refine z_cvSI (pc := 1) (A' := 0) (B' := 0) hG [] [] (rfl : zsq 907 = true) (tJ0_isLatin1_aae02_907 hl0  g hv1) zy_J0_isLatin1_aae02 ⟨w1085, w1086⟩ w1084 dJ0_charAt_5068e_1 rfl (Nat.le_of_ble_eq_true rfl) rfl rfl rfl (Nat.le_of_ble_eq_true rfl) rfl ?_
  refine z_if_eq (pc := 4) (tgt := 16) hG dJ0_charAt_5068e_4 rfl (fun hc => ?_) (fun hc => ?_)
  · replace h := zif_t hc h
    cases h
  · replace h := zif_f hc h
    refine z_aload_n (pc := 7) hG 0 rfl rfl dJ0_charAt_5068e_7 ?_
    refine z_sval (pc := 8) (q := 907) hG rfl w1059 dJ0_charAt_5068e_8 ?_
    refine z_iload_n (pc := 11) hG 1 rfl rfl dJ0_charAt_5068e_11 ?_
    replace h := zbind h
    obtain ⟨v2, hv2, h⟩ := h
    refine z_csI (pc := 12) (A' := 0) (B' := 0) hG [.ref 927, .int a1] [] (tJ1_charAt_3b067_927 hl0 a1 g hv2) zy_J1_charAt_3b067 w1089 w1088 dJ0_charAt_5068e_12 rfl (Nat.le_of_ble_eq_true rfl) rfl rfl rfl (Nat.le_of_ble_eq_true rfl) rfl ?_
    replace h := zchk_some h
    obtain ⟨hc, h⟩ := h
    obtain rfl := Option.some.inj h
    exact z_iret (pc := 15) hG rfl (znc_n hc) hk dJ0_charAt_5068e_15
noncomputable def wX7_isWord_907_22 (a2 : Int32) (g : zS) (s : Int32) : Option (Int32 ⊕ Int32) :=
  if a2 ≤ s then (zex (some ((1 : Int32)))) else ((nX9_at ((g.1 19 2) + s) g).bind fun v2 => (nJ0_charAt_5068e_907 s).bind fun v3 => if v2 = v3 then (some (.inl (s + (1 : Int32)))) else (zex (some ((0 : Int32)))))
noncomputable def nX7_isWord_907 (g : zS) : Option Int32 :=
  (nJ0_length_8abf5_907 ).bind fun v1 => if ((g.1 19 3) - (g.1 19 2)) = v1 then (wh (wX7_isWord_907_22 v1 g) (0 : Int32)) else (some ((0 : Int32)))
def qX7_isWord_907_22 (x : zXx) (a2 : Int32) (g : zS) (o : Int32 ⊕ Int32) : Prop := match o with
  | .inl s => zK x 4 22 [(0, .ref 19), (1, .ref 907), (2, .int a2), (3, .int s)] [] zD g 0 0
  | .inr r => ztg x = (.inl (some (.int r)), zD, g)
set_option maxHeartbeats 60000 in
theorem kwX7_isWord_907_22 {x : zXx} (hG : zG x cX7_isWord 4 RX7 ((Option.some Jvm.ClassFile.FieldType.boolean))) (hl0 : (zl0 x).flags = flags0) (a2 : Int32) (g : zS) {o : Int32} (hk : ztg x = (.inl (some (.int o)), zD, g)) : ∀ s : Int32, wh (wX7_isWord_907_22 a2 g) s = some o → zK x 4 22 [(0, .ref 19), (1, .ref 907), (2, .int a2), (3, .int s)] [] zD g 0 0 := by
  refine wh_ind (fun s : Int32 => zK x 4 22 [(0, .ref 19), (1, .ref 907), (2, .int a2), (3, .int s)] [] zD g 0 0) (fun s o h hk2 => ?_)
  replace hk : qX7_isWord_907_22 x a2 g o := by
    cases o with
    | inl s => exact hk2
    | inr r => subst hk2; exact hk
  clear hk2
  unfold wX7_isWord_907_22 at h
  refine z_iload_n (pc := 22) hG 3 rfl rfl dX7_isWord_22 ?_
  refine z_iload_n (pc := 23) hG 2 rfl rfl dX7_isWord_23 ?_
  refine z_icmp_ge (pc := 24) (tgt := 56) hG dX7_isWord_24 rfl (fun hc => ?_) (fun hc => ?_)
  · replace h := zif_t hc h
    replace h := zex_some h
    obtain ⟨o, h, rfl⟩ := h
    refine z_iconst (pc := 56) hG kc_1 dX7_isWord_56 ?_
    obtain rfl := Option.some.inj h
    exact z_iret (pc := 57) hG rfl rfl hk dX7_isWord_57
  · replace h := zif_f hc h
    refine z_aload_n (pc := 27) hG 0 rfl rfl dX7_isWord_27 ?_
    refine z_getr (pc := 28) hG zc_X7 inX7 DL_19 0 rfl (by decide) rfl w598 dX7_isWord_28 ?_
    refine z_aload_n (pc := 31) hG 0 rfl rfl dX7_isWord_31 ?_
    refine z_geti (pc := 32) hG zc_X7 inX7 DL_19 2 rfl (by decide) rfl w600 dX7_isWord_32 ?_
    refine z_iload_n (pc := 35) hG 3 rfl rfl dX7_isWord_35 ?_
    refine z_iadd (pc := 36) hG dX7_isWord_36 ?_
    replace h := zbind h
    obtain ⟨v2, hv2, h⟩ := h
    refine z_cvI (pc := 37) (A' := 0) (B' := 0) hG [.int ((g.1 19 2) + s)] [] zc_X9 DL_1 (tX9_at hl0 ((g.1 19 2) + s) g hv2) zy_X9_at ⟨w1124, w1125⟩ w1123 dX7_isWord_37 rfl (Nat.le_of_ble_eq_true rfl) rfl rfl rfl (Nat.le_of_ble_eq_true rfl) rfl ?_
    refine z_aload_n (pc := 40) hG 1 rfl rfl dX7_isWord_40 ?_
    refine z_iload_n (pc := 41) hG 3 rfl rfl dX7_isWord_41 ?_
    replace h := zbind h
    obtain ⟨v3, hv3, h⟩ := h
    refine z_cvSI (pc := 42) (A' := 0) (B' := 0) hG [.int s] [.int v2] (rfl : zsq 907 = true) (tJ0_charAt_5068e_907 hl0 s g hv3) zy_J0_charAt_5068e ⟨w1081, w1082⟩ w1146 dX7_isWord_42 rfl (Nat.le_of_ble_eq_true rfl) rfl rfl rfl (Nat.le_of_ble_eq_true rfl) rfl ?_
    refine z_icmp_eq (pc := 45) (tgt := 50) hG dX7_isWord_45 rfl (fun hc => ?_) (fun hc => ?_)
    · replace h := zif_t hc h
      refine z_iinc (pc := 50) (ls' := [(3, .int (s + (1 : Int32))), (0, .ref 19), (1, .ref 907), (2, .int a2)]) hG 3 rfl [0, 1, 2, 3] (ki_1 _) (by decide) rfl dX7_isWord_50 ?_
      refine z_goto (pc := 53) (tgt := 22) hG dX7_isWord_53 rfl ?_
      obtain rfl := Option.some.inj h
      refine z_sub (ls' := [(0, .ref 19), (1, .ref 907), (2, .int a2), (3, .int (s + (1 : Int32)))]) [1, 2, 3, 0] rfl ?_
      exact hk
    · replace h := zif_f hc h
      replace h := zex_some h
      obtain ⟨o, h, rfl⟩ := h
      refine z_iconst (pc := 48) hG kc_0 dX7_isWord_48 ?_
      obtain rfl := Option.some.inj h
      exact z_iret (pc := 49) hG rfl rfl hk dX7_isWord_49
set_option maxHeartbeats 60000 in
theorem tX7_isWord_907 {l : Launch} (hl0 : l.flags = flags0) (g : zS) {r : Int32} (h : nX7_isWord_907 g = some r) : zC l yX7_isWord cX7_isWord 4 ((Option.some Jvm.ClassFile.FieldType.boolean)) 4 0 0 [.ref 19, .ref 907] zD g (.inl (some (.int r)), zD, g) := by
  refine zC_of hl0 rfl (Nat.le_of_ble_eq_true rfl) (fun x hG hxl hk _ => ?_)
  subst hxl
  show zK x 4 0 [(0, .ref 19), (1, .ref 907)] [] zD g 0 0
  unfold nX7_isWord_907 at h
  refine z_aload_n (pc := 0) hG 1 rfl rfl dX7_isWord_0 ?_
  replace h := zbind h
  obtain ⟨v1, hv1, h⟩ := h
  refine z_cvSI (pc := 1) (A' := 0) (B' := 0) hG [] [] (rfl : zsq 907 = true) (tJ0_length_8abf5_907 hl0  g hv1) zy_J0_length_8abf5 ⟨w908, w909⟩ w1145 dX7_isWord_1 rfl (Nat.le_of_ble_eq_true rfl) rfl rfl rfl (Nat.le_of_ble_eq_true rfl) rfl ?_
  refine z_istore_n (pc := 4) (ls' := [(2, .int v1), (0, .ref 19), (1, .ref 907)]) hG [0, 1, 2] rfl (by decide) rfl dX7_isWord_4 ?_
  refine z_aload_n (pc := 5) hG 1 rfl rfl dX7_isWord_5 ?_
  refine z_geti (pc := 6) hG zc_X7 inX7 DL_19 3 rfl (by decide) rfl w601 dX7_isWord_6 ?_
  refine z_aload_n (pc := 9) hG 1 rfl rfl dX7_isWord_9 ?_
  refine z_geti (pc := 10) hG zc_X7 inX7 DL_19 2 rfl (by decide) rfl w600 dX7_isWord_10 ?_
  refine z_isub (pc := 13) hG dX7_isWord_13 ?_
  refine z_iload_n (pc := 14) hG 0 rfl rfl dX7_isWord_14 ?_
  refine z_icmp_eq (pc := 15) (tgt := 20) hG dX7_isWord_15 rfl (fun hc => ?_) (fun hc => ?_)
  · replace h := zif_t hc h
    refine z_iconst (pc := 20) hG kc_0 dX7_isWord_20 ?_
    refine z_istore_n (pc := 21) (ls' := [(3, .int (0 : Int32)), (2, .int v1), (0, .ref 19), (1, .ref 907)]) hG [0, 1, 2, 3] rfl (by decide) rfl dX7_isWord_21 ?_
    refine z_sub (ls' := [(0, .ref 19), (1, .ref 907), (2, .int v1), (3, .int (0 : Int32))]) [2, 3, 1, 0] rfl ?_
    exact kwX7_isWord_907_22 hG hl0 v1 g hk (0 : Int32) h
  · replace h := zif_f hc h
    refine z_iconst (pc := 18) hG kc_0 dX7_isWord_18 ?_
    obtain rfl := Option.some.inj h
    exact z_iret (pc := 19) hG rfl rfl hk dX7_isWord_19
noncomputable def jX7_readSpans_66 (a2 : Int32) (a3 : Int32) (a4 : Int32) (a5 : Int32) (s0 : Int32) (g : zS) : Option ((Int32 × Int32 × zS) ⊕ (Int32 × zS)) :=
  if s0 = (-1 : Int32) then (zex (some (((0 : Int32), g)))) else ((nX7_isSign (44 : Int32) g).bind fun v4 => if v4 = 0 then (zex (some (((a3 ||| (((2 : Int32) <<< (s0 &&& 31)) - ((1 : Int32) <<< (a5 &&& 31)))), g)))) else (some (.inl ((a3 ||| (((2 : Int32) <<< (s0 &&& 31)) - ((1 : Int32) <<< (a5 &&& 31)))), (a4 + (1 : Int32)), g))))
noncomputable def wX7_readSpans_17 (a2 : Int32) (s : (Int32 × Int32 × zS)) : Option ((Int32 × Int32 × zS) ⊕ (Int32 × zS)) :=
  if (400 : Int32) ≤ s.2.1 then (zex (some (((0 : Int32), s.2.2)))) else ((nX7_next s.2.2).bind fun v1 => (nX7_takeNumber (0 : Int32) a2 v1).bind fun v2 => if v2.1 = (-1 : Int32) then (zex (some (((0 : Int32), v2.2)))) else ((nX7_takes (45 : Int32) v2.2).bind fun v3 => if v3.1 = 0 then (jX7_readSpans_66 a2 s.1 s.2.1 v2.1 v2.1 v3.2) else ((nX7_takeNumber v2.1 a2 v3.2).bind fun v5 => jX7_readSpans_66 a2 s.1 s.2.1 v2.1 v5.1 v5.2)))
noncomputable def nX7_readSpans (a1 : Int32) (g : zS) : Option (Int32 × zS) :=
  zchk (zin a1 5) (wh (wX7_readSpans_17 ((g.1 12 a1.toNatClampNeg) - (1 : Int32))) ((0 : Int32), (0 : Int32), g))
def qX7_readSpans_17 (x : zXx) (a2 : Int32) (o : (Int32 × Int32 × zS) ⊕ (Int32 × zS)) : Prop := match o with
  | .inl s => zK x 3 17 [(0, .ref 19), (2, .int a2), (3, .int s.1), (4, .int s.2.1)] [] zD s.2.2 0 0
  | .inr r => ztg x = (.inl (some (.int r.1)), zD, r.2)
set_option maxHeartbeats 60000 in
theorem kjX7_readSpans_66 {x : zXx} (hG : zG x cX7_readSpans 7 RX7 ((Option.some Jvm.ClassFile.FieldType.int))) (hl0 : (zl0 x).flags = flags0) (a2 : Int32) (a3 : Int32) (a4 : Int32) (a5 : Int32) (s0 : Int32) (g : zS) {o : ((Int32 × Int32 × zS) ⊕ (Int32 × zS))} (h : jX7_readSpans_66 a2 a3 a4 a5 s0 g = some o) (hk : qX7_readSpans_17 x a2 o) : zK x 3 66 [(0, .ref 19), (2, .int a2), (3, .int a3), (4, .int a4), (5, .int a5)] [.int s0] zD g 0 0 := by
  unfold jX7_readSpans_66 at h
  refine z_istore (pc := 66) (ls' := [(6, .int s0), (0, .ref 19), (2, .int a2), (3, .int a3), (4, .int a4), (5, .int a5)]) hG [0, 1, 2, 3, 4, 5] (by decide) rfl dX7_readSpans_66 ?_
  refine z_iload (pc := 68) hG 0 rfl dX7_readSpans_68 ?_
  refine z_iconst (pc := 70) hG kc_m1 dX7_readSpans_70 ?_
  refine z_icmp_ne (pc := 71) (tgt := 76) hG dX7_readSpans_71 rfl (fun hc => ?_) (fun hc => ?_)
  · replace h := zif_f hc h
    refine z_iload_n (pc := 76) hG 3 rfl rfl dX7_readSpans_76 ?_
    refine z_iconst (pc := 77) hG kc_2 dX7_readSpans_77 ?_
    refine z_iload (pc := 78) hG 0 rfl dX7_readSpans_78 ?_
    refine z_ishl (pc := 80) hG dX7_readSpans_80 ?_
    refine z_iconst (pc := 81) hG kc_1 dX7_readSpans_81 ?_
    refine z_iload (pc := 82) hG 5 rfl dX7_readSpans_82 ?_
    refine z_ishl (pc := 84) hG dX7_readSpans_84 ?_
    refine z_isub (pc := 85) hG dX7_readSpans_85 ?_
    refine z_ior (pc := 86) hG dX7_readSpans_86 ?_
    refine z_istore_n (pc := 87) (ls' := [(3, .int (a3 ||| (((2 : Int32) <<< (s0 &&& 31)) - ((1 : Int32) <<< (a5 &&& 31))))), (6, .int s0), (0, .ref 19), (2, .int a2), (4, .int a4), (5, .int a5)]) hG [0, 1, 2, 3, 4, 5] rfl (by decide) rfl dX7_readSpans_87 ?_
    refine z_aload_n (pc := 88) hG 2 rfl rfl dX7_readSpans_88 ?_
    refine z_bipush (pc := 89) hG kb_44 dX7_readSpans_89 ?_
    replace h := zbind h
    obtain ⟨v4, hv4, h⟩ := h
    refine z_cvI (pc := 91) (A' := 0) (B' := 0) hG [.int (44 : Int32)] [] zc_X7 DL_19 (tX7_isSign hl0 (44 : Int32) g hv4) zy_X7_isSign ⟨w1202, wp38⟩ w1200 dX7_readSpans_91 rfl (Nat.le_of_ble_eq_true rfl) rfl rfl rfl (Nat.le_of_ble_eq_true rfl) rfl ?_
    refine z_if_ne (pc := 94) (tgt := 99) hG dX7_readSpans_94 rfl (fun hc => ?_) (fun hc => ?_)
    · replace h := zif_f hc h
      refine z_iinc (pc := 99) (ls' := [(4, .int (a4 + (1 : Int32))), (3, .int (a3 ||| (((2 : Int32) <<< (s0 &&& 31)) - ((1 : Int32) <<< (a5 &&& 31))))), (6, .int s0), (0, .ref 19), (2, .int a2), (5, .int a5)]) hG 4 rfl [0, 1, 2, 3, 4, 5] (ki_1 _) (by decide) rfl dX7_readSpans_99 ?_
      refine z_goto (pc := 102) (tgt := 17) hG dX7_readSpans_102 rfl ?_
      obtain rfl := Option.some.inj h
      refine z_sub (ls' := [(0, .ref 19), (2, .int a2), (3, .int (a3 ||| (((2 : Int32) <<< (s0 &&& 31)) - ((1 : Int32) <<< (a5 &&& 31))))), (4, .int (a4 + (1 : Int32)))]) [3, 4, 1, 0] rfl ?_
      exact hk
    · replace h := zif_t hc h
      replace h := zex_some h
      obtain ⟨o, h, rfl⟩ := h
      refine z_iload_n (pc := 97) hG 0 rfl rfl dX7_readSpans_97 ?_
      obtain rfl := Option.some.inj h
      exact z_iret (pc := 98) hG rfl rfl hk dX7_readSpans_98
  · replace h := zif_t hc h
    replace h := zex_some h
    obtain ⟨o, h, rfl⟩ := h
    refine z_iconst (pc := 74) hG kc_0 dX7_readSpans_74 ?_
    obtain rfl := Option.some.inj h
    exact z_iret (pc := 75) hG rfl rfl hk dX7_readSpans_75
set_option maxHeartbeats 60000 in
theorem kwX7_readSpans_17 {x : zXx} (hG : zG x cX7_readSpans 7 RX7 ((Option.some Jvm.ClassFile.FieldType.int))) (hl0 : (zl0 x).flags = flags0) (a2 : Int32) {o : (Int32 × zS)} (hk : ztg x = (.inl (some (.int o.1)), zD, o.2)) : ∀ s : (Int32 × Int32 × zS), wh (wX7_readSpans_17 a2) s = some o → zK x 3 17 [(0, .ref 19), (2, .int a2), (3, .int s.1), (4, .int s.2.1)] [] zD s.2.2 0 0 := by
  refine wh_ind (fun s : (Int32 × Int32 × zS) => zK x 3 17 [(0, .ref 19), (2, .int a2), (3, .int s.1), (4, .int s.2.1)] [] zD s.2.2 0 0) (fun s o h hk2 => ?_)
  replace hk : qX7_readSpans_17 x a2 o := by
    cases o with
    | inl s => exact hk2
    | inr r => subst hk2; exact hk
  clear hk2
  unfold wX7_readSpans_17 at h
  refine z_iload (pc := 17) hG 3 rfl dX7_readSpans_17 ?_
  refine z_sipush (pc := 19) hG ks_400 dX7_readSpans_19 ?_
  refine z_icmp_ge (pc := 22) (tgt := 105) hG dX7_readSpans_22 rfl (fun hc => ?_) (fun hc => ?_)
  · replace h := zif_t hc h
    replace h := zex_some h
    obtain ⟨o, h, rfl⟩ := h
    refine z_iconst (pc := 105) hG kc_0 dX7_readSpans_105 ?_
    obtain rfl := Option.some.inj h
    exact z_iret (pc := 106) hG rfl rfl hk dX7_readSpans_106
  · replace h := zif_f hc h
    refine z_aload_n (pc := 25) hG 0 rfl rfl dX7_readSpans_25 ?_
    replace h := zbind h
    obtain ⟨v1, hv1, h⟩ := h
    refine z_cvV (pc := 26) (A' := 0) (B' := 0) hG [] [] zc_X7 DL_19 (tX7_next hl0  s.2.2 hv1) zy_X7_next ⟨w1121, wp25⟩ w1119 dX7_readSpans_26 rfl (Nat.le_of_ble_eq_true rfl) rfl rfl rfl (Nat.le_of_ble_eq_true rfl) rfl ?_
    refine z_aload_n (pc := 29) hG 0 rfl rfl dX7_readSpans_29 ?_
    refine z_iconst (pc := 30) hG kc_0 dX7_readSpans_30 ?_
    refine z_iload_n (pc := 31) hG 1 rfl rfl dX7_readSpans_31 ?_
    replace h := zbind h
    obtain ⟨v2, hv2, h⟩ := h
    refine z_cvI (pc := 32) (A' := 0) (B' := 0) hG [.int (0 : Int32), .int a2] [] zc_X7 DL_19 (tX7_takeNumber hl0 (0 : Int32) a2 v1 hv2) zy_X7_takeNumber ⟨w1181, wp33⟩ w1179 dX7_readSpans_32 rfl (Nat.le_of_ble_eq_true rfl) rfl rfl rfl (Nat.le_of_ble_eq_true rfl) rfl ?_
    refine z_istore (pc := 35) (ls' := [(5, .int v2.1), (0, .ref 19), (2, .int a2), (3, .int s.1), (4, .int s.2.1)]) hG [0, 1, 2, 3, 4] (by decide) rfl dX7_readSpans_35 ?_
    refine z_iload (pc := 37) hG 0 rfl dX7_readSpans_37 ?_
    refine z_iconst (pc := 39) hG kc_m1 dX7_readSpans_39 ?_
    refine z_icmp_ne (pc := 40) (tgt := 45) hG dX7_readSpans_40 rfl (fun hc => ?_) (fun hc => ?_)
    · replace h := zif_f hc h
      refine z_aload_n (pc := 45) hG 1 rfl rfl dX7_readSpans_45 ?_
      refine z_bipush (pc := 46) hG kb_45 dX7_readSpans_46 ?_
      replace h := zbind h
      obtain ⟨v3, hv3, h⟩ := h
      refine z_cvI (pc := 48) (A' := 0) (B' := 0) hG [.int (45 : Int32)] [] zc_X7 DL_19 (tX7_takes hl0 (45 : Int32) v2.2 hv3) zy_X7_takes ⟨w1198, wp37⟩ w1196 dX7_readSpans_48 rfl (Nat.le_of_ble_eq_true rfl) rfl rfl rfl (Nat.le_of_ble_eq_true rfl) rfl ?_
      refine z_if_eq (pc := 51) (tgt := 64) hG dX7_readSpans_51 rfl (fun hc => ?_) (fun hc => ?_)
      · replace h := zif_t hc h
        refine z_iload (pc := 64) hG 0 rfl dX7_readSpans_64 ?_
        refine z_sub (ls' := [(0, .ref 19), (2, .int a2), (3, .int s.1), (4, .int s.2.1), (5, .int v2.1)]) [1, 2, 3, 4, 0] rfl ?_
        exact kjX7_readSpans_66 hG hl0 a2 s.1 s.2.1 v2.1 v2.1 v3.2 h hk
      · replace h := zif_f hc h
        refine z_aload_n (pc := 54) hG 1 rfl rfl dX7_readSpans_54 ?_
        refine z_iload (pc := 55) hG 0 rfl dX7_readSpans_55 ?_
        refine z_iload_n (pc := 57) hG 2 rfl rfl dX7_readSpans_57 ?_
        replace h := zbind h
        obtain ⟨v5, hv5, h⟩ := h
        refine z_cvI (pc := 58) (A' := 0) (B' := 0) hG [.int v2.1, .int a2] [] zc_X7 DL_19 (tX7_takeNumber hl0 v2.1 a2 v3.2 hv5) zy_X7_takeNumber ⟨w1181, wp33⟩ w1179 dX7_readSpans_58 rfl (Nat.le_of_ble_eq_true rfl) rfl rfl rfl (Nat.le_of_ble_eq_true rfl) rfl ?_
        refine z_goto (pc := 61) (tgt := 66) hG dX7_readSpans_61 rfl ?_
        refine z_sub (ls' := [(0, .ref 19), (2, .int a2), (3, .int s.1), (4, .int s.2.1), (5, .int v2.1)]) [1, 2, 3, 4, 0] rfl ?_
        exact kjX7_readSpans_66 hG hl0 a2 s.1 s.2.1 v2.1 v5.1 v5.2 h hk
    · replace h := zif_t hc h
      replace h := zex_some h
      obtain ⟨o, h, rfl⟩ := h
      refine z_iconst (pc := 43) hG kc_0 dX7_readSpans_43 ?_
      obtain rfl := Option.some.inj h
      exact z_iret (pc := 44) hG rfl rfl hk dX7_readSpans_44
set_option maxHeartbeats 60000 in
theorem tX7_readSpans {l : Launch} (hl0 : l.flags = flags0) (a1 : Int32) (g : zS) {r : (Int32 × zS)} (h : nX7_readSpans a1 g = some r) : zC l yX7_readSpans cX7_readSpans 7 ((Option.some Jvm.ClassFile.FieldType.int)) 3 0 0 [.ref 19, .int a1] zD g (.inl (some (.int r.1)), zD, r.2) := by
  refine zC_of hl0 rfl (Nat.le_of_ble_eq_true rfl) (fun x hG hxl hk _ => ?_)
  subst hxl
  show zK x 3 0 [(0, .ref 19), (1, .int a1)] [] zD g 0 0
  unfold nX7_readSpans at h
  refine z_aload_n (pc := 0) hG 0 rfl rfl dX7_readSpans_0 ?_
  refine z_getr (pc := 1) hG zc_X7 inX7 DL_19 1 rfl (by decide) rfl w599 dX7_readSpans_1 ?_
  refine z_getr (pc := 4) hG zc_X6 inX6 DL_11 1 rfl (by decide) rfl w540 dX7_readSpans_4 ?_
  refine z_iload_n (pc := 7) hG 1 rfl rfl dX7_readSpans_7 ?_
  replace h := zchk_some h
  obtain ⟨hc, h⟩ := h
  refine z_iald (pc := 8) hG DL_12 (zin_in hc) dX7_readSpans_8 ?_
  refine z_iconst (pc := 9) hG kc_1 dX7_readSpans_9 ?_
  refine z_isub (pc := 10) hG dX7_readSpans_10 ?_
  refine z_istore_n (pc := 11) (ls' := [(2, .int ((g.1 12 a1.toNatClampNeg) - (1 : Int32))), (0, .ref 19), (1, .int a1)]) hG [0, 1, 2] rfl (by decide) rfl dX7_readSpans_11 ?_
  refine z_iconst (pc := 12) hG kc_0 dX7_readSpans_12 ?_
  refine z_istore_n (pc := 13) (ls' := [(3, .int (0 : Int32)), (2, .int ((g.1 12 a1.toNatClampNeg) - (1 : Int32))), (0, .ref 19), (1, .int a1)]) hG [0, 1, 2, 3] rfl (by decide) rfl dX7_readSpans_13 ?_
  refine z_iconst (pc := 14) hG kc_0 dX7_readSpans_14 ?_
  refine z_istore (pc := 15) (ls' := [(4, .int (0 : Int32)), (3, .int (0 : Int32)), (2, .int ((g.1 12 a1.toNatClampNeg) - (1 : Int32))), (0, .ref 19), (1, .int a1)]) hG [0, 1, 2, 3, 4] (by decide) rfl dX7_readSpans_15 ?_
  refine z_sub (ls' := [(0, .ref 19), (2, .int ((g.1 12 a1.toNatClampNeg) - (1 : Int32))), (3, .int (0 : Int32)), (4, .int (0 : Int32))]) [3, 2, 1, 0] rfl ?_
  exact kwX7_readSpans_17 hG hl0 ((g.1 12 a1.toNatClampNeg) - (1 : Int32)) hk ((0 : Int32), (0 : Int32), g) h
noncomputable def nJ0_coder_7d493_906 : Option Int32 :=
  if (1 : Int32) = 0 then (some ((1 : Int32))) else (some ((0 : Int32)))
set_option maxHeartbeats 60000 in
theorem tJ0_coder_7d493_906 {l : Launch} (hl0 : l.flags = flags0) (g : zS) {r : Int32} (h : nJ0_coder_7d493_906  = some r) : zC l yJ0_coder_7d493 cJ0_coder_7d493 1 ((Option.some Jvm.ClassFile.FieldType.byte)) 0 0 0 [.ref 906] zD g (.inl (some (.int r)), zD, g) := by
  refine zC_of hl0 rfl (Nat.le_of_ble_eq_true rfl) (fun x hG hxl hk _ => ?_)
  subst hxl
  show zK x 0 0 [(0, .ref 906)] [] zD g 0 0
  unfold nJ0_coder_7d493_906 at h
  refine z_cstr (pc := 0) hG w915 dJ0_coder_7d493_0 ?_
  refine z_if_eq (pc := 3) (tgt := 13) hG dJ0_coder_7d493_3 rfl (fun hc => ?_) (fun hc => ?_)
  · replace h := zif_t hc h
    refine z_iconst (pc := 13) hG kc_1 dJ0_coder_7d493_13 ?_
    obtain rfl := Option.some.inj h
    exact z_iret (pc := 14) hG rfl rfl hk dJ0_coder_7d493_14
  · replace h := zif_f hc h
    refine z_aload_n (pc := 6) hG 0 rfl rfl dJ0_coder_7d493_6 ?_
    refine z_scod (pc := 7) (q := 906) hG rfl w1060 dJ0_coder_7d493_7 ?_
    refine z_goto (pc := 10) (tgt := 14) hG dJ0_coder_7d493_10 rfl ?_
    obtain rfl := Option.some.inj h
    exact z_iret (pc := 14) hG rfl rfl hk dJ0_coder_7d493_14
noncomputable def nJ0_length_8abf5_906 : Option Int32 :=
  (nJ0_coder_7d493_906 ).bind fun v1 => some (((nI (slen.getD (zsj 906) 0)) >>> (v1 &&& 31)))
set_option maxHeartbeats 60000 in
theorem tJ0_length_8abf5_906 {l : Launch} (hl0 : l.flags = flags0) (g : zS) {r : Int32} (h : nJ0_length_8abf5_906  = some r) : zC l yJ0_length_8abf5 cJ0_length_8abf5 1 ((Option.some Jvm.ClassFile.FieldType.int)) 1 0 0 [.ref 906] zD g (.inl (some (.int r)), zD, g) := by
  refine zC_of hl0 rfl (Nat.le_of_ble_eq_true rfl) (fun x hG hxl hk _ => ?_)
  subst hxl
  show zK x 1 0 [(0, .ref 906)] [] zD g 0 0
  unfold nJ0_length_8abf5_906 at h
  refine z_aload_n (pc := 0) hG 0 rfl rfl dJ0_length_8abf5_0 ?_
  refine z_sval (pc := 1) (q := 906) hG rfl w1059 dJ0_length_8abf5_1 ?_
  refine z_slen (pc := 4) (q := 906) hG rfl rfl dJ0_length_8abf5_4 ?_
  refine z_aload_n (pc := 5) hG 0 rfl rfl dJ0_length_8abf5_5 ?_
  replace h := zbind h
  obtain ⟨v1, hv1, h⟩ := h
  refine z_cvSI (pc := 6) (A' := 0) (B' := 0) hG [] [.int (nI (slen.getD (zsj 906) 0))] (rfl : zsq 906 = true) (tJ0_coder_7d493_906 hl0  g hv1) zy_J0_coder_7d493 ⟨w912, w913⟩ w911 dJ0_length_8abf5_6 rfl (Nat.le_of_ble_eq_true rfl) rfl rfl rfl (Nat.le_of_ble_eq_true rfl) rfl ?_
  refine z_ishr (pc := 9) hG dJ0_length_8abf5_9 ?_
  obtain rfl := Option.some.inj h
  exact z_iret (pc := 10) hG rfl rfl hk dJ0_length_8abf5_10
noncomputable def nJ0_isLatin1_aae02_906 : Option Int32 :=
  if (1 : Int32) = 0 then (some ((0 : Int32))) else (if (0 : Int32) = 0 then (some ((1 : Int32))) else (some ((0 : Int32))))
set_option maxHeartbeats 60000 in
theorem tJ0_isLatin1_aae02_906 {l : Launch} (hl0 : l.flags = flags0) (g : zS) {r : Int32} (h : nJ0_isLatin1_aae02_906  = some r) : zC l yJ0_isLatin1_aae02 cJ0_isLatin1_aae02 1 ((Option.some Jvm.ClassFile.FieldType.boolean)) 0 0 0 [.ref 906] zD g (.inl (some (.int r)), zD, g) := by
  refine zC_of hl0 rfl (Nat.le_of_ble_eq_true rfl) (fun x hG hxl hk _ => ?_)
  subst hxl
  show zK x 0 0 [(0, .ref 906)] [] zD g 0 0
  unfold nJ0_isLatin1_aae02_906 at h
  refine z_cstr (pc := 0) hG w915 dJ0_isLatin1_aae02_0 ?_
  refine z_if_eq (pc := 3) (tgt := 17) hG dJ0_isLatin1_aae02_3 rfl (fun hc => ?_) (fun hc => ?_)
  · replace h := zif_t hc h
    refine z_iconst (pc := 17) hG kc_0 dJ0_isLatin1_aae02_17 ?_
    obtain rfl := Option.some.inj h
    exact z_iret (pc := 18) hG rfl rfl hk dJ0_isLatin1_aae02_18
  · replace h := zif_f hc h
    refine z_aload_n (pc := 6) hG 0 rfl rfl dJ0_isLatin1_aae02_6 ?_
    refine z_scod (pc := 7) (q := 906) hG rfl w1060 dJ0_isLatin1_aae02_7 ?_
    refine z_if_ne (pc := 10) (tgt := 17) hG dJ0_isLatin1_aae02_10 rfl (fun hc => ?_) (fun hc => ?_)
    · replace h := zif_f hc h
      refine z_iconst (pc := 17) hG kc_0 dJ0_isLatin1_aae02_17 ?_
      obtain rfl := Option.some.inj h
      exact z_iret (pc := 18) hG rfl rfl hk dJ0_isLatin1_aae02_18
    · replace h := zif_t hc h
      refine z_iconst (pc := 13) hG kc_1 dJ0_isLatin1_aae02_13 ?_
      refine z_goto (pc := 14) (tgt := 18) hG dJ0_isLatin1_aae02_14 rfl ?_
      obtain rfl := Option.some.inj h
      exact z_iret (pc := 18) hG rfl rfl hk dJ0_isLatin1_aae02_18
noncomputable def nJ1_charAt_3b067_926 (a1 : Int32) : Option Int32 :=
  (nJ0_checkIndex_df160 a1 (nI (slen.getD (zsj 906) 0))).bind fun v1 => zchk (zin a1 (slen.getD (zsj 906) 0)) (zchk (znc ((((sbyt.getD (zsj 906) []).getD a1.toNatClampNeg 0) &&& (255 : Int32)).toUInt32 % 65536).toInt32) (some (((((sbyt.getD (zsj 906) []).getD a1.toNatClampNeg 0) &&& (255 : Int32)).toUInt32 % 65536).toInt32)))
set_option maxHeartbeats 60000 in
theorem tJ1_charAt_3b067_926 {l : Launch} (hl0 : l.flags = flags0) (a1 : Int32) (g : zS) {r : Int32} (h : nJ1_charAt_3b067_926 a1 = some r) : zC l yJ1_charAt_3b067 cJ1_charAt_3b067 2 ((Option.some Jvm.ClassFile.FieldType.char)) 2 0 0 [.ref 926, .int a1] zD g (.inl (some (.int r)), zD, g) := by
  refine zC_of hl0 rfl (Nat.le_of_ble_eq_true rfl) (fun x hG hxl hk _ => ?_)
  subst hxl
  show zK x 2 0 [(0, .ref 926), (1, .int a1)] [] zD g 0 0
  unfold nJ1_charAt_3b067_926 at h
  refine z_iload_n (pc := 0) hG 1 rfl rfl dJ1_charAt_3b067_0 ?_
  refine z_aload_n (pc := 1) hG 0 rfl rfl dJ1_charAt_3b067_1 ?_
  refine z_slen (pc := 2) (q := 906) hG rfl rfl dJ1_charAt_3b067_2 ?_
  replace h := zbind h
  obtain ⟨v1, hv1, h⟩ := h
  refine z_csV (pc := 3) (A' := 0) (B' := 0) hG [.int a1, .int (nI (slen.getD (zsj 906) 0))] [] (tJ0_checkIndex_df160 hl0 a1 (nI (slen.getD (zsj 906) 0)) g hv1) zy_J0_checkIndex_df160 w967 w1091 dJ1_charAt_3b067_3 rfl (Nat.le_of_ble_eq_true rfl) rfl rfl rfl (Nat.le_of_ble_eq_true rfl) rfl ?_
  refine z_aload_n (pc := 6) hG 0 rfl rfl dJ1_charAt_3b067_6 ?_
  refine z_iload_n (pc := 7) hG 1 rfl rfl dJ1_charAt_3b067_7 ?_
  replace h := zchk_some h
  obtain ⟨hc, h⟩ := h
  refine z_sbyt (pc := 8) (q := 906) hG rfl rfl (zin_in hc) dJ1_charAt_3b067_8 ?_
  refine z_sipush (pc := 9) hG ks_255 dJ1_charAt_3b067_9 ?_
  refine z_iand (pc := 12) hG dJ1_charAt_3b067_12 ?_
  refine z_i2c (pc := 13) hG dJ1_charAt_3b067_13 ?_
  replace h := zchk_some h
  obtain ⟨hc, h⟩ := h
  obtain rfl := Option.some.inj h
  exact z_iret (pc := 14) hG rfl (znc_n hc) hk dJ1_charAt_3b067_14
noncomputable def nJ0_charAt_5068e_906 (a1 : Int32) : Option Int32 :=
  (nJ0_isLatin1_aae02_906 ).bind fun v1 => if v1 = 0 then (none) else ((nJ1_charAt_3b067_926 a1).bind fun v2 => zchk (znc v2) (some (v2)))
set_option maxHeartbeats 60000 in
theorem tJ0_charAt_5068e_906 {l : Launch} (hl0 : l.flags = flags0) (a1 : Int32) (g : zS) {r : Int32} (h : nJ0_charAt_5068e_906 a1 = some r) : zC l yJ0_charAt_5068e cJ0_charAt_5068e 2 ((Option.some Jvm.ClassFile.FieldType.char)) 3 0 0 [.ref 906, .int a1] zD g (.inl (some (.int r)), zD, g) := by
  refine zC_of hl0 rfl (Nat.le_of_ble_eq_true rfl) (fun x hG hxl hk _ => ?_)
  subst hxl
  show zK x 3 0 [(0, .ref 906), (1, .int a1)] [] zD g 0 0
  unfold nJ0_charAt_5068e_906 at h
  refine z_aload_n (pc := 0) hG 0 rfl rfl dJ0_charAt_5068e_0 ?_
  replace h := zbind h
  obtain ⟨v1, hv1, h⟩ := h
  refine z_cvSI (pc := 1) (A' := 0) (B' := 0) hG [] [] (rfl : zsq 906 = true) (tJ0_isLatin1_aae02_906 hl0  g hv1) zy_J0_isLatin1_aae02 ⟨w1085, w1086⟩ w1084 dJ0_charAt_5068e_1 rfl (Nat.le_of_ble_eq_true rfl) rfl rfl rfl (Nat.le_of_ble_eq_true rfl) rfl ?_
  refine z_if_eq (pc := 4) (tgt := 16) hG dJ0_charAt_5068e_4 rfl (fun hc => ?_) (fun hc => ?_)
  · replace h := zif_t hc h
    cases h
  · replace h := zif_f hc h
    refine z_aload_n (pc := 7) hG 0 rfl rfl dJ0_charAt_5068e_7 ?_
    refine z_sval (pc := 8) (q := 906) hG rfl w1059 dJ0_charAt_5068e_8 ?_
    refine z_iload_n (pc := 11) hG 1 rfl rfl dJ0_charAt_5068e_11 ?_
    replace h := zbind h
    obtain ⟨v2, hv2, h⟩ := h
    refine z_csI (pc := 12) (A' := 0) (B' := 0) hG [.ref 926, .int a1] [] (tJ1_charAt_3b067_926 hl0 a1 g hv2) zy_J1_charAt_3b067 w1089 w1088 dJ0_charAt_5068e_12 rfl (Nat.le_of_ble_eq_true rfl) rfl rfl rfl (Nat.le_of_ble_eq_true rfl) rfl ?_
    replace h := zchk_some h
    obtain ⟨hc, h⟩ := h
    obtain rfl := Option.some.inj h
    exact z_iret (pc := 15) hG rfl (znc_n hc) hk dJ0_charAt_5068e_15
noncomputable def wX7_isWord_906_22 (a2 : Int32) (g : zS) (s : Int32) : Option (Int32 ⊕ Int32) :=
  if a2 ≤ s then (zex (some ((1 : Int32)))) else ((nX9_at ((g.1 19 2) + s) g).bind fun v2 => (nJ0_charAt_5068e_906 s).bind fun v3 => if v2 = v3 then (some (.inl (s + (1 : Int32)))) else (zex (some ((0 : Int32)))))
noncomputable def nX7_isWord_906 (g : zS) : Option Int32 :=
  (nJ0_length_8abf5_906 ).bind fun v1 => if ((g.1 19 3) - (g.1 19 2)) = v1 then (wh (wX7_isWord_906_22 v1 g) (0 : Int32)) else (some ((0 : Int32)))
def qX7_isWord_906_22 (x : zXx) (a2 : Int32) (g : zS) (o : Int32 ⊕ Int32) : Prop := match o with
  | .inl s => zK x 4 22 [(0, .ref 19), (1, .ref 906), (2, .int a2), (3, .int s)] [] zD g 0 0
  | .inr r => ztg x = (.inl (some (.int r)), zD, g)
set_option maxHeartbeats 60000 in
theorem kwX7_isWord_906_22 {x : zXx} (hG : zG x cX7_isWord 4 RX7 ((Option.some Jvm.ClassFile.FieldType.boolean))) (hl0 : (zl0 x).flags = flags0) (a2 : Int32) (g : zS) {o : Int32} (hk : ztg x = (.inl (some (.int o)), zD, g)) : ∀ s : Int32, wh (wX7_isWord_906_22 a2 g) s = some o → zK x 4 22 [(0, .ref 19), (1, .ref 906), (2, .int a2), (3, .int s)] [] zD g 0 0 := by
  refine wh_ind (fun s : Int32 => zK x 4 22 [(0, .ref 19), (1, .ref 906), (2, .int a2), (3, .int s)] [] zD g 0 0) (fun s o h hk2 => ?_)
  replace hk : qX7_isWord_906_22 x a2 g o := by
    cases o with
    | inl s => exact hk2
    | inr r => subst hk2; exact hk
  clear hk2
  unfold wX7_isWord_906_22 at h
  refine z_iload_n (pc := 22) hG 3 rfl rfl dX7_isWord_22 ?_
  refine z_iload_n (pc := 23) hG 2 rfl rfl dX7_isWord_23 ?_
  refine z_icmp_ge (pc := 24) (tgt := 56) hG dX7_isWord_24 rfl (fun hc => ?_) (fun hc => ?_)
  · replace h := zif_t hc h
    replace h := zex_some h
    obtain ⟨o, h, rfl⟩ := h
    refine z_iconst (pc := 56) hG kc_1 dX7_isWord_56 ?_
    obtain rfl := Option.some.inj h
    exact z_iret (pc := 57) hG rfl rfl hk dX7_isWord_57
  · replace h := zif_f hc h
    refine z_aload_n (pc := 27) hG 0 rfl rfl dX7_isWord_27 ?_
    refine z_getr (pc := 28) hG zc_X7 inX7 DL_19 0 rfl (by decide) rfl w598 dX7_isWord_28 ?_
    refine z_aload_n (pc := 31) hG 0 rfl rfl dX7_isWord_31 ?_
    refine z_geti (pc := 32) hG zc_X7 inX7 DL_19 2 rfl (by decide) rfl w600 dX7_isWord_32 ?_
    refine z_iload_n (pc := 35) hG 3 rfl rfl dX7_isWord_35 ?_
    refine z_iadd (pc := 36) hG dX7_isWord_36 ?_
    replace h := zbind h
    obtain ⟨v2, hv2, h⟩ := h
    refine z_cvI (pc := 37) (A' := 0) (B' := 0) hG [.int ((g.1 19 2) + s)] [] zc_X9 DL_1 (tX9_at hl0 ((g.1 19 2) + s) g hv2) zy_X9_at ⟨w1124, w1125⟩ w1123 dX7_isWord_37 rfl (Nat.le_of_ble_eq_true rfl) rfl rfl rfl (Nat.le_of_ble_eq_true rfl) rfl ?_
    refine z_aload_n (pc := 40) hG 1 rfl rfl dX7_isWord_40 ?_
    refine z_iload_n (pc := 41) hG 3 rfl rfl dX7_isWord_41 ?_
    replace h := zbind h
    obtain ⟨v3, hv3, h⟩ := h
    refine z_cvSI (pc := 42) (A' := 0) (B' := 0) hG [.int s] [.int v2] (rfl : zsq 906 = true) (tJ0_charAt_5068e_906 hl0 s g hv3) zy_J0_charAt_5068e ⟨w1081, w1082⟩ w1146 dX7_isWord_42 rfl (Nat.le_of_ble_eq_true rfl) rfl rfl rfl (Nat.le_of_ble_eq_true rfl) rfl ?_
    refine z_icmp_eq (pc := 45) (tgt := 50) hG dX7_isWord_45 rfl (fun hc => ?_) (fun hc => ?_)
    · replace h := zif_t hc h
      refine z_iinc (pc := 50) (ls' := [(3, .int (s + (1 : Int32))), (0, .ref 19), (1, .ref 906), (2, .int a2)]) hG 3 rfl [0, 1, 2, 3] (ki_1 _) (by decide) rfl dX7_isWord_50 ?_
      refine z_goto (pc := 53) (tgt := 22) hG dX7_isWord_53 rfl ?_
      obtain rfl := Option.some.inj h
      refine z_sub (ls' := [(0, .ref 19), (1, .ref 906), (2, .int a2), (3, .int (s + (1 : Int32)))]) [1, 2, 3, 0] rfl ?_
      exact hk
    · replace h := zif_f hc h
      replace h := zex_some h
      obtain ⟨o, h, rfl⟩ := h
      refine z_iconst (pc := 48) hG kc_0 dX7_isWord_48 ?_
      obtain rfl := Option.some.inj h
      exact z_iret (pc := 49) hG rfl rfl hk dX7_isWord_49
set_option maxHeartbeats 60000 in
theorem tX7_isWord_906 {l : Launch} (hl0 : l.flags = flags0) (g : zS) {r : Int32} (h : nX7_isWord_906 g = some r) : zC l yX7_isWord cX7_isWord 4 ((Option.some Jvm.ClassFile.FieldType.boolean)) 4 0 0 [.ref 19, .ref 906] zD g (.inl (some (.int r)), zD, g) := by
  refine zC_of hl0 rfl (Nat.le_of_ble_eq_true rfl) (fun x hG hxl hk _ => ?_)
  subst hxl
  show zK x 4 0 [(0, .ref 19), (1, .ref 906)] [] zD g 0 0
  unfold nX7_isWord_906 at h
  refine z_aload_n (pc := 0) hG 1 rfl rfl dX7_isWord_0 ?_
  replace h := zbind h
  obtain ⟨v1, hv1, h⟩ := h
  refine z_cvSI (pc := 1) (A' := 0) (B' := 0) hG [] [] (rfl : zsq 906 = true) (tJ0_length_8abf5_906 hl0  g hv1) zy_J0_length_8abf5 ⟨w908, w909⟩ w1145 dX7_isWord_1 rfl (Nat.le_of_ble_eq_true rfl) rfl rfl rfl (Nat.le_of_ble_eq_true rfl) rfl ?_
  refine z_istore_n (pc := 4) (ls' := [(2, .int v1), (0, .ref 19), (1, .ref 906)]) hG [0, 1, 2] rfl (by decide) rfl dX7_isWord_4 ?_
  refine z_aload_n (pc := 5) hG 1 rfl rfl dX7_isWord_5 ?_
  refine z_geti (pc := 6) hG zc_X7 inX7 DL_19 3 rfl (by decide) rfl w601 dX7_isWord_6 ?_
  refine z_aload_n (pc := 9) hG 1 rfl rfl dX7_isWord_9 ?_
  refine z_geti (pc := 10) hG zc_X7 inX7 DL_19 2 rfl (by decide) rfl w600 dX7_isWord_10 ?_
  refine z_isub (pc := 13) hG dX7_isWord_13 ?_
  refine z_iload_n (pc := 14) hG 0 rfl rfl dX7_isWord_14 ?_
  refine z_icmp_eq (pc := 15) (tgt := 20) hG dX7_isWord_15 rfl (fun hc => ?_) (fun hc => ?_)
  · replace h := zif_t hc h
    refine z_iconst (pc := 20) hG kc_0 dX7_isWord_20 ?_
    refine z_istore_n (pc := 21) (ls' := [(3, .int (0 : Int32)), (2, .int v1), (0, .ref 19), (1, .ref 906)]) hG [0, 1, 2, 3] rfl (by decide) rfl dX7_isWord_21 ?_
    refine z_sub (ls' := [(0, .ref 19), (1, .ref 906), (2, .int v1), (3, .int (0 : Int32))]) [2, 3, 1, 0] rfl ?_
    exact kwX7_isWord_906_22 hG hl0 v1 g hk (0 : Int32) h
  · replace h := zif_f hc h
    refine z_iconst (pc := 18) hG kc_0 dX7_isWord_18 ?_
    obtain rfl := Option.some.inj h
    exact z_iret (pc := 19) hG rfl rfl hk dX7_isWord_19
noncomputable def nX6_allValues_d (a1 : Int32) (g : zS) : Option Int32 :=
  zchk (zin a1 5) (some ((((1 : Int32) <<< ((g.1 12 a1.toNatClampNeg) &&& 31)) - (1 : Int32))))
set_option maxHeartbeats 60000 in
theorem tX6_allValues_d {l : Launch} (hl0 : l.flags = flags0) (a1 : Int32) (g : zS) {r : Int32} (h : nX6_allValues_d a1 g = some r) : zC l yX6_allValues cX6_allValues 2 ((Option.some Jvm.ClassFile.FieldType.int)) 0 0 0 [.ref 11, .int a1] zD g (.inl (some (.int r)), zD, g) := by
  refine zC_of hl0 rfl (Nat.le_of_ble_eq_true rfl) (fun x hG hxl hk _ => ?_)
  subst hxl
  show zK x 0 0 [(0, .ref 11), (1, .int a1)] [] zD g 0 0
  unfold nX6_allValues_d at h
  refine z_iconst (pc := 0) hG kc_1 dX6_allValues_0 ?_
  refine z_aload_n (pc := 1) hG 0 rfl rfl dX6_allValues_1 ?_
  refine z_getr (pc := 2) hG zc_X6 inX6 DL_11 1 rfl (by decide) rfl w538 dX6_allValues_2 ?_
  refine z_iload_n (pc := 5) hG 1 rfl rfl dX6_allValues_5 ?_
  replace h := zchk_some h
  obtain ⟨hc, h⟩ := h
  refine z_iald (pc := 6) hG DL_12 (zin_in hc) dX6_allValues_6 ?_
  refine z_ishl (pc := 7) hG dX6_allValues_7 ?_
  refine z_iconst (pc := 8) hG kc_1 dX6_allValues_8 ?_
  refine z_isub (pc := 9) hG dX6_allValues_9 ?_
  obtain rfl := Option.some.inj h
  exact z_iret (pc := 10) hG rfl rfl hk dX6_allValues_10
noncomputable def wX7_readEdit_65 (a1 : Int32) (s : (Int32 × Int32 × zS)) : Option ((Int32 × Int32 × zS) ⊕ (Int32 × zS)) :=
  if (5 : Int32) < s.2.1 then (zex (some (((0 : Int32), s.2.2)))) else ((nX7_next s.2.2).bind fun v1 => (nX7_toldField v1).bind fun v2 => if v2 = (-1 : Int32) then (zex (some (((0 : Int32), v1)))) else (if ((s.1 >>> (v2 &&& 31)) &&& (1 : Int32)) = 0 then ((nX7_next v1).bind fun v3 => (nX7_isWord_907 v3).bind fun v4 => if v4 = 0 then (zex (some (((0 : Int32), v3)))) else ((nX7_readSpans v2 v3).bind fun v5 => zchk (zin (a1 + v2) 30) (zchk (zin (a1 + v2) 30) (if ((zi v5.2 17 (a1 + v2).toNatClampNeg v5.1).1 17 (a1 + v2).toNatClampNeg) = 0 then (zex (some (((0 : Int32), (zi v5.2 17 (a1 + v2).toNatClampNeg v5.1))))) else ((nX7_isWord_906 (zi v5.2 17 (a1 + v2).toNatClampNeg v5.1)).bind fun v6 => if v6 = 0 then (zex (some (((1 : Int32), (zi v5.2 17 (a1 + v2).toNatClampNeg v5.1))))) else (some (.inl ((s.1 ||| ((1 : Int32) <<< (v2 &&& 31))), (s.2.1 + (1 : Int32)), (zi v5.2 17 (a1 + v2).toNatClampNeg v5.1))))))))) else (zex (some (((0 : Int32), v1))))))
noncomputable def wX7_readEdit_12 (a1 : Int32) (s : (Int32 × zS)) : Option ((Int32 × zS) ⊕ (Int32 × zS)) :=
  if (s.2.1 11 0) ≤ s.1 then (zex (wh (wX7_readEdit_65 a1) ((0 : Int32), (0 : Int32), (zi s.2 11 7 ((s.2.1 11 7) + (1 : Int32)))))) else ((nX6_allValues_d s.1 s.2).bind fun v7 => zchk (zin (a1 + s.1) 30) (some (.inl ((s.1 + (1 : Int32)), (zi s.2 17 (a1 + s.1).toNatClampNeg v7)))))
noncomputable def nX7_readEdit (g : zS) : Option (Int32 × zS) :=
  wh (wX7_readEdit_12 ((g.1 11 7) * (5 : Int32))) ((0 : Int32), g)
def qX7_readEdit_12 (x : zXx) (a1 : Int32) (o : (Int32 × zS) ⊕ (Int32 × zS)) : Prop := match o with
  | .inl s => zK x 5 12 [(0, .ref 19), (1, .int a1), (2, .int s.1)] [] zD s.2 0 0
  | .inr r => ztg x = (.inl (some (.int r.1)), zD, r.2)
def qX7_readEdit_65 (x : zXx) (a1 : Int32) (o : (Int32 × Int32 × zS) ⊕ (Int32 × zS)) : Prop := match o with
  | .inl s => zK x 5 65 [(0, .ref 19), (1, .int a1), (2, .int s.1), (3, .int s.2.1)] [] zD s.2.2 0 0
  | .inr r => ztg x = (.inl (some (.int r.1)), zD, r.2)
set_option maxHeartbeats 60000 in
theorem kwX7_readEdit_65 {x : zXx} (hG : zG x cX7_readEdit 5 RX7 ((Option.some Jvm.ClassFile.FieldType.boolean))) (hl0 : (zl0 x).flags = flags0) (a1 : Int32) {o : (Int32 × zS)} (hk : ztg x = (.inl (some (.int o.1)), zD, o.2)) : ∀ s : (Int32 × Int32 × zS), wh (wX7_readEdit_65 a1) s = some o → zK x 5 65 [(0, .ref 19), (1, .int a1), (2, .int s.1), (3, .int s.2.1)] [] zD s.2.2 0 0 := by
  refine wh_ind (fun s : (Int32 × Int32 × zS) => zK x 5 65 [(0, .ref 19), (1, .int a1), (2, .int s.1), (3, .int s.2.1)] [] zD s.2.2 0 0) (fun s o h hk2 => ?_)
  replace hk : qX7_readEdit_65 x a1 o := by
    cases o with
    | inl s => exact hk2
    | inr r => subst hk2; exact hk
  clear hk2
  unfold wX7_readEdit_65 at h
  refine z_iload_n (pc := 65) hG 3 rfl rfl dX7_readEdit_65 ?_
  refine z_iconst (pc := 66) hG kc_5 dX7_readEdit_66 ?_
  refine z_icmp_gt (pc := 67) (tgt := 171) hG dX7_readEdit_67 rfl (fun hc => ?_) (fun hc => ?_)
  · replace h := zif_t hc h
    replace h := zex_some h
    obtain ⟨o, h, rfl⟩ := h
    refine z_iconst (pc := 171) hG kc_0 dX7_readEdit_171 ?_
    obtain rfl := Option.some.inj h
    exact z_iret (pc := 172) hG rfl rfl hk dX7_readEdit_172
  · replace h := zif_f hc h
    refine z_aload_n (pc := 70) hG 0 rfl rfl dX7_readEdit_70 ?_
    replace h := zbind h
    obtain ⟨v1, hv1, h⟩ := h
    refine z_cvV (pc := 71) (A' := 0) (B' := 0) hG [] [] zc_X7 DL_19 (tX7_next hl0  s.2.2 hv1) zy_X7_next ⟨w1121, wp25⟩ w1119 dX7_readEdit_71 rfl (Nat.le_of_ble_eq_true rfl) rfl rfl rfl (Nat.le_of_ble_eq_true rfl) rfl ?_
    refine z_aload_n (pc := 74) hG 0 rfl rfl dX7_readEdit_74 ?_
    replace h := zbind h
    obtain ⟨v2, hv2, h⟩ := h
    refine z_cvI (pc := 75) (A' := 0) (B' := 0) hG [] [] zc_X7 DL_19 (tX7_toldField hl0  v1 hv2) zy_X7_toldField ⟨w1165, wp30⟩ w1163 dX7_readEdit_75 rfl (Nat.le_of_ble_eq_true rfl) rfl rfl rfl (Nat.le_of_ble_eq_true rfl) rfl ?_
    refine z_istore (pc := 78) (ls' := [(4, .int v2), (0, .ref 19), (1, .int a1), (2, .int s.1), (3, .int s.2.1)]) hG [0, 1, 2, 3, 4] (by decide) rfl dX7_readEdit_78 ?_
    refine z_iload (pc := 80) hG 0 rfl dX7_readEdit_80 ?_
    refine z_iconst (pc := 82) hG kc_m1 dX7_readEdit_82 ?_
    refine z_icmp_eq (pc := 83) (tgt := 95) hG dX7_readEdit_83 rfl (fun hc => ?_) (fun hc => ?_)
    · replace h := zif_t hc h
      replace h := zex_some h
      obtain ⟨o, h, rfl⟩ := h
      refine z_iconst (pc := 95) hG kc_0 dX7_readEdit_95 ?_
      obtain rfl := Option.some.inj h
      exact z_iret (pc := 96) hG rfl rfl hk dX7_readEdit_96
    · replace h := zif_f hc h
      refine z_iload_n (pc := 86) hG 3 rfl rfl dX7_readEdit_86 ?_
      refine z_iload (pc := 87) hG 0 rfl dX7_readEdit_87 ?_
      refine z_ishr (pc := 89) hG dX7_readEdit_89 ?_
      refine z_iconst (pc := 90) hG kc_1 dX7_readEdit_90 ?_
      refine z_iand (pc := 91) hG dX7_readEdit_91 ?_
      refine z_if_eq (pc := 92) (tgt := 97) hG dX7_readEdit_92 rfl (fun hc => ?_) (fun hc => ?_)
      · replace h := zif_t hc h
        refine z_iload_n (pc := 97) hG 3 rfl rfl dX7_readEdit_97 ?_
        refine z_iconst (pc := 98) hG kc_1 dX7_readEdit_98 ?_
        refine z_iload (pc := 99) hG 0 rfl dX7_readEdit_99 ?_
        refine z_ishl (pc := 101) hG dX7_readEdit_101 ?_
        refine z_ior (pc := 102) hG dX7_readEdit_102 ?_
        refine z_istore_n (pc := 103) (ls' := [(2, .int (s.1 ||| ((1 : Int32) <<< (v2 &&& 31)))), (4, .int v2), (0, .ref 19), (1, .int a1), (3, .int s.2.1)]) hG [0, 1, 2, 3, 4] rfl (by decide) rfl dX7_readEdit_103 ?_
        refine z_aload_n (pc := 104) hG 2 rfl rfl dX7_readEdit_104 ?_
        replace h := zbind h
        obtain ⟨v3, hv3, h⟩ := h
        refine z_cvV (pc := 105) (A' := 0) (B' := 0) hG [] [] zc_X7 DL_19 (tX7_next hl0  v1 hv3) zy_X7_next ⟨w1121, wp25⟩ w1119 dX7_readEdit_105 rfl (Nat.le_of_ble_eq_true rfl) rfl rfl rfl (Nat.le_of_ble_eq_true rfl) rfl ?_
        refine z_aload_n (pc := 108) hG 2 rfl rfl dX7_readEdit_108 ?_
        refine z_lds (pc := 109) hG (by decide : (RX7, 134, "in", 907) ∈ zrefs) dX7_readEdit_109 ?_
        replace h := zbind h
        obtain ⟨v4, hv4, h⟩ := h
        refine z_cvI (pc := 111) (A' := 0) (B' := 0) hG [.ref 907] [] zc_X7 DL_19 (tX7_isWord_907 hl0  v3 hv4) zy_X7_isWord ⟨w1143, wp27⟩ w1141 dX7_readEdit_111 rfl (Nat.le_of_ble_eq_true rfl) rfl rfl rfl (Nat.le_of_ble_eq_true rfl) rfl ?_
        refine z_if_ne (pc := 114) (tgt := 119) hG dX7_readEdit_114 rfl (fun hc => ?_) (fun hc => ?_)
        · replace h := zif_f hc h
          refine z_aload_n (pc := 119) hG 2 rfl rfl dX7_readEdit_119 ?_
          refine z_getr (pc := 120) hG zc_X7 inX7 DL_19 1 rfl (by decide) rfl w599 dX7_readEdit_120 ?_
          refine z_getr (pc := 123) hG zc_X6 inX6 DL_11 8 rfl (by decide) rfl w562 dX7_readEdit_123 ?_
          refine z_iload_n (pc := 126) hG 3 rfl rfl dX7_readEdit_126 ?_
          refine z_iload (pc := 127) hG 1 rfl dX7_readEdit_127 ?_
          refine z_iadd (pc := 129) hG dX7_readEdit_129 ?_
          refine z_aload_n (pc := 130) hG 2 rfl rfl dX7_readEdit_130 ?_
          refine z_iload (pc := 131) hG 1 rfl dX7_readEdit_131 ?_
          replace h := zbind h
          obtain ⟨v5, hv5, h⟩ := h
          refine z_cvI (pc := 133) (A' := 0) (B' := 0) hG [.int v2] [.int (a1 + v2), .ref 17] zc_X7 DL_19 (tX7_readSpans hl0 v2 v3 hv5) zy_X7_readSpans ⟨w1194, wp36⟩ w1192 dX7_readEdit_133 rfl (Nat.le_of_ble_eq_true rfl) rfl rfl rfl (Nat.le_of_ble_eq_true rfl) rfl ?_
          replace h := zchk_some h
          obtain ⟨hc, h⟩ := h
          refine z_iast (pc := 136) hG DL_17 (zin_in hc) dX7_readEdit_136 ?_
          refine z_aload_n (pc := 137) hG 2 rfl rfl dX7_readEdit_137 ?_
          refine z_getr (pc := 138) hG zc_X7 inX7 DL_19 1 rfl (by decide) rfl w599 dX7_readEdit_138 ?_
          refine z_getr (pc := 141) hG zc_X6 inX6 DL_11 8 rfl (by decide) rfl w562 dX7_readEdit_141 ?_
          refine z_iload_n (pc := 144) hG 3 rfl rfl dX7_readEdit_144 ?_
          refine z_iload (pc := 145) hG 1 rfl dX7_readEdit_145 ?_
          refine z_iadd (pc := 147) hG dX7_readEdit_147 ?_
          replace h := zchk_some h
          obtain ⟨hc, h⟩ := h
          refine z_iald (pc := 148) hG DL_17 (zin_in hc) dX7_readEdit_148 ?_
          refine z_if_ne (pc := 149) (tgt := 154) hG dX7_readEdit_149 rfl (fun hc => ?_) (fun hc => ?_)
          · replace h := zif_f hc h
            refine z_aload_n (pc := 154) hG 2 rfl rfl dX7_readEdit_154 ?_
            refine z_lds (pc := 155) hG (by decide : (RX7, 139, "and", 906) ∈ zrefs) dX7_readEdit_155 ?_
            replace h := zbind h
            obtain ⟨v6, hv6, h⟩ := h
            refine z_cvI (pc := 157) (A' := 0) (B' := 0) hG [.ref 906] [] zc_X7 DL_19 (tX7_isWord_906 hl0  (zi v5.2 17 (a1 + v2).toNatClampNeg v5.1) hv6) zy_X7_isWord ⟨w1143, wp27⟩ w1141 dX7_readEdit_157 rfl (Nat.le_of_ble_eq_true rfl) rfl rfl rfl (Nat.le_of_ble_eq_true rfl) rfl ?_
            refine z_if_ne (pc := 160) (tgt := 165) hG dX7_readEdit_160 rfl (fun hc => ?_) (fun hc => ?_)
            · replace h := zif_f hc h
              refine z_iinc (pc := 165) (ls' := [(3, .int (s.2.1 + (1 : Int32))), (2, .int (s.1 ||| ((1 : Int32) <<< (v2 &&& 31)))), (4, .int v2), (0, .ref 19), (1, .int a1)]) hG 4 rfl [0, 1, 2, 3, 4] (ki_1 _) (by decide) rfl dX7_readEdit_165 ?_
              refine z_goto (pc := 168) (tgt := 65) hG dX7_readEdit_168 rfl ?_
              obtain rfl := Option.some.inj h
              refine z_sub (ls' := [(0, .ref 19), (1, .int a1), (2, .int (s.1 ||| ((1 : Int32) <<< (v2 &&& 31)))), (3, .int (s.2.1 + (1 : Int32)))]) [3, 4, 1, 0] rfl ?_
              exact hk
            · replace h := zif_t hc h
              replace h := zex_some h
              obtain ⟨o, h, rfl⟩ := h
              refine z_iconst (pc := 163) hG kc_1 dX7_readEdit_163 ?_
              obtain rfl := Option.some.inj h
              exact z_iret (pc := 164) hG rfl rfl hk dX7_readEdit_164
          · replace h := zif_t hc h
            replace h := zex_some h
            obtain ⟨o, h, rfl⟩ := h
            refine z_iconst (pc := 152) hG kc_0 dX7_readEdit_152 ?_
            obtain rfl := Option.some.inj h
            exact z_iret (pc := 153) hG rfl rfl hk dX7_readEdit_153
        · replace h := zif_t hc h
          replace h := zex_some h
          obtain ⟨o, h, rfl⟩ := h
          refine z_iconst (pc := 117) hG kc_0 dX7_readEdit_117 ?_
          obtain rfl := Option.some.inj h
          exact z_iret (pc := 118) hG rfl rfl hk dX7_readEdit_118
      · replace h := zif_f hc h
        replace h := zex_some h
        obtain ⟨o, h, rfl⟩ := h
        refine z_iconst (pc := 95) hG kc_0 dX7_readEdit_95 ?_
        obtain rfl := Option.some.inj h
        exact z_iret (pc := 96) hG rfl rfl hk dX7_readEdit_96
set_option maxHeartbeats 60000 in
theorem kwX7_readEdit_12 {x : zXx} (hG : zG x cX7_readEdit 5 RX7 ((Option.some Jvm.ClassFile.FieldType.boolean))) (hl0 : (zl0 x).flags = flags0) (a1 : Int32) {o : (Int32 × zS)} (hk : ztg x = (.inl (some (.int o.1)), zD, o.2)) : ∀ s : (Int32 × zS), wh (wX7_readEdit_12 a1) s = some o → zK x 5 12 [(0, .ref 19), (1, .int a1), (2, .int s.1)] [] zD s.2 0 0 := by
  refine wh_ind (fun s : (Int32 × zS) => zK x 5 12 [(0, .ref 19), (1, .int a1), (2, .int s.1)] [] zD s.2 0 0) (fun s o h hk2 => ?_)
  replace hk : qX7_readEdit_12 x a1 o := by
    cases o with
    | inl s => exact hk2
    | inr r => subst hk2; exact hk
  clear hk2
  unfold wX7_readEdit_12 at h
  refine z_iload_n (pc := 12) hG 2 rfl rfl dX7_readEdit_12 ?_
  refine z_aload_n (pc := 13) hG 0 rfl rfl dX7_readEdit_13 ?_
  refine z_getr (pc := 14) hG zc_X7 inX7 DL_19 1 rfl (by decide) rfl w599 dX7_readEdit_14 ?_
  refine z_geti (pc := 17) hG zc_X6 inX6 DL_11 0 rfl (by decide) rfl w535 dX7_readEdit_17 ?_
  refine z_icmp_ge (pc := 20) (tgt := 48) hG dX7_readEdit_20 rfl (fun hc => ?_) (fun hc => ?_)
  · replace h := zif_t hc h
    replace h := zex_some h
    obtain ⟨o, h, rfl⟩ := h
    refine z_aload_n (pc := 48) hG 0 rfl rfl dX7_readEdit_48 ?_
    refine z_getr (pc := 49) hG zc_X7 inX7 DL_19 1 rfl (by decide) rfl w599 dX7_readEdit_49 ?_
    refine z_dup (pc := 52) hG rfl dX7_readEdit_52 ?_
    refine z_geti (pc := 53) hG zc_X6 inX6 DL_11 7 rfl (by decide) rfl w558 dX7_readEdit_53 ?_
    refine z_iconst (pc := 56) hG kc_1 dX7_readEdit_56 ?_
    refine z_iadd (pc := 57) hG dX7_readEdit_57 ?_
    refine z_puti (pc := 58) hG zc_X6 inX6 tyX6 tyX6_ok nmX6 DL_11 7 rfl (by decide) rfl w558 rfl rfl rfl dX7_readEdit_58 ?_
    refine z_iconst (pc := 61) hG kc_0 dX7_readEdit_61 ?_
    refine z_istore_n (pc := 62) (ls' := [(2, .int (0 : Int32)), (0, .ref 19), (1, .int a1)]) hG [0, 1, 2] rfl (by decide) rfl dX7_readEdit_62 ?_
    refine z_iconst (pc := 63) hG kc_0 dX7_readEdit_63 ?_
    refine z_istore_n (pc := 64) (ls' := [(3, .int (0 : Int32)), (2, .int (0 : Int32)), (0, .ref 19), (1, .int a1)]) hG [0, 1, 2, 3] rfl (by decide) rfl dX7_readEdit_64 ?_
    refine z_sub (ls' := [(0, .ref 19), (1, .int a1), (2, .int (0 : Int32)), (3, .int (0 : Int32))]) [2, 3, 1, 0] rfl ?_
    exact kwX7_readEdit_65 hG hl0 a1 hk ((0 : Int32), (0 : Int32), (zi s.2 11 7 ((s.2.1 11 7) + (1 : Int32)))) h
  · replace h := zif_f hc h
    refine z_aload_n (pc := 23) hG 0 rfl rfl dX7_readEdit_23 ?_
    refine z_getr (pc := 24) hG zc_X7 inX7 DL_19 1 rfl (by decide) rfl w599 dX7_readEdit_24 ?_
    refine z_getr (pc := 27) hG zc_X6 inX6 DL_11 8 rfl (by decide) rfl w562 dX7_readEdit_27 ?_
    refine z_iload_n (pc := 30) hG 1 rfl rfl dX7_readEdit_30 ?_
    refine z_iload_n (pc := 31) hG 2 rfl rfl dX7_readEdit_31 ?_
    refine z_iadd (pc := 32) hG dX7_readEdit_32 ?_
    refine z_aload_n (pc := 33) hG 0 rfl rfl dX7_readEdit_33 ?_
    refine z_getr (pc := 34) hG zc_X7 inX7 DL_19 1 rfl (by decide) rfl w599 dX7_readEdit_34 ?_
    refine z_iload_n (pc := 37) hG 2 rfl rfl dX7_readEdit_37 ?_
    replace h := zbind h
    obtain ⟨v7, hv7, h⟩ := h
    refine z_cvI (pc := 38) (A' := 0) (B' := 0) hG [.int s.1] [.int (a1 + s.1), .ref 17] zc_X6 DL_11 (tX6_allValues_d hl0 s.1 s.2 hv7) zy_X6_allValues ⟨w208, w209⟩ w1191 dX7_readEdit_38 rfl (Nat.le_of_ble_eq_true rfl) rfl rfl rfl (Nat.le_of_ble_eq_true rfl) rfl ?_
    replace h := zchk_some h
    obtain ⟨hc, h⟩ := h
    refine z_iast (pc := 41) hG DL_17 (zin_in hc) dX7_readEdit_41 ?_
    refine z_iinc (pc := 42) (ls' := [(2, .int (s.1 + (1 : Int32))), (0, .ref 19), (1, .int a1)]) hG 2 rfl [0, 1, 2] (ki_1 _) (by decide) rfl dX7_readEdit_42 ?_
    refine z_goto (pc := 45) (tgt := 12) hG dX7_readEdit_45 rfl ?_
    obtain rfl := Option.some.inj h
    refine z_sub (ls' := [(0, .ref 19), (1, .int a1), (2, .int (s.1 + (1 : Int32)))]) [1, 2, 0] rfl ?_
    exact hk
set_option maxHeartbeats 60000 in
theorem tX7_readEdit {l : Launch} (hl0 : l.flags = flags0) (g : zS) {r : (Int32 × zS)} (h : nX7_readEdit g = some r) : zC l yX7_readEdit cX7_readEdit 5 ((Option.some Jvm.ClassFile.FieldType.boolean)) 5 0 0 [.ref 19] zD g (.inl (some (.int r.1)), zD, r.2) := by
  refine zC_of hl0 rfl (Nat.le_of_ble_eq_true rfl) (fun x hG hxl hk _ => ?_)
  subst hxl
  show zK x 5 0 [(0, .ref 19)] [] zD g 0 0
  unfold nX7_readEdit at h
  refine z_aload_n (pc := 0) hG 0 rfl rfl dX7_readEdit_0 ?_
  refine z_getr (pc := 1) hG zc_X7 inX7 DL_19 1 rfl (by decide) rfl w599 dX7_readEdit_1 ?_
  refine z_geti (pc := 4) hG zc_X6 inX6 DL_11 7 rfl (by decide) rfl w558 dX7_readEdit_4 ?_
  refine z_iconst (pc := 7) hG kc_5 dX7_readEdit_7 ?_
  refine z_imul (pc := 8) hG dX7_readEdit_8 ?_
  refine z_istore_n (pc := 9) (ls' := [(1, .int ((g.1 11 7) * (5 : Int32))), (0, .ref 19)]) hG [0, 1] rfl (by decide) rfl dX7_readEdit_9 ?_
  refine z_iconst (pc := 10) hG kc_0 dX7_readEdit_10 ?_
  refine z_istore_n (pc := 11) (ls' := [(2, .int (0 : Int32)), (1, .int ((g.1 11 7) * (5 : Int32))), (0, .ref 19)]) hG [0, 1, 2] rfl (by decide) rfl dX7_readEdit_11 ?_
  refine z_sub (ls' := [(0, .ref 19), (1, .int ((g.1 11 7) * (5 : Int32))), (2, .int (0 : Int32))]) [2, 1, 0] rfl ?_
  exact kwX7_readEdit_12 hG hl0 ((g.1 11 7) * (5 : Int32)) hk ((0 : Int32), g) h
noncomputable def nX7_readGroup (g : zS) : Option (Int32 × zS) :=
  (nX7_next g).bind fun v1 => (nX7_toldField v1).bind fun v2 => if v2 = (-1 : Int32) then (some (((0 : Int32), v1))) else ((nX7_next (zi v1 11 6 v2)).bind fun v3 => some (((1 : Int32), v3)))
set_option maxHeartbeats 60000 in
theorem tX7_readGroup {l : Launch} (hl0 : l.flags = flags0) (g : zS) {r : (Int32 × zS)} (h : nX7_readGroup g = some r) : zC l yX7_readGroup cX7_readGroup 2 ((Option.some Jvm.ClassFile.FieldType.boolean)) 3 0 0 [.ref 19] zD g (.inl (some (.int r.1)), zD, r.2) := by
  refine zC_of hl0 rfl (Nat.le_of_ble_eq_true rfl) (fun x hG hxl hk _ => ?_)
  subst hxl
  show zK x 3 0 [(0, .ref 19)] [] zD g 0 0
  unfold nX7_readGroup at h
  refine z_aload_n (pc := 0) hG 0 rfl rfl dX7_readGroup_0 ?_
  replace h := zbind h
  obtain ⟨v1, hv1, h⟩ := h
  refine z_cvV (pc := 1) (A' := 0) (B' := 0) hG [] [] zc_X7 DL_19 (tX7_next hl0  g hv1) zy_X7_next ⟨w1121, wp25⟩ w1119 dX7_readGroup_1 rfl (Nat.le_of_ble_eq_true rfl) rfl rfl rfl (Nat.le_of_ble_eq_true rfl) rfl ?_
  refine z_aload_n (pc := 4) hG 0 rfl rfl dX7_readGroup_4 ?_
  replace h := zbind h
  obtain ⟨v2, hv2, h⟩ := h
  refine z_cvI (pc := 5) (A' := 0) (B' := 0) hG [] [] zc_X7 DL_19 (tX7_toldField hl0  v1 hv2) zy_X7_toldField ⟨w1165, wp30⟩ w1163 dX7_readGroup_5 rfl (Nat.le_of_ble_eq_true rfl) rfl rfl rfl (Nat.le_of_ble_eq_true rfl) rfl ?_
  refine z_istore_n (pc := 8) (ls' := [(1, .int v2), (0, .ref 19)]) hG [0, 1] rfl (by decide) rfl dX7_readGroup_8 ?_
  refine z_iload_n (pc := 9) hG 0 rfl rfl dX7_readGroup_9 ?_
  refine z_iconst (pc := 10) hG kc_m1 dX7_readGroup_10 ?_
  refine z_icmp_ne (pc := 11) (tgt := 16) hG dX7_readGroup_11 rfl (fun hc => ?_) (fun hc => ?_)
  · replace h := zif_f hc h
    refine z_aload_n (pc := 16) hG 1 rfl rfl dX7_readGroup_16 ?_
    refine z_getr (pc := 17) hG zc_X7 inX7 DL_19 1 rfl (by decide) rfl w599 dX7_readGroup_17 ?_
    refine z_iload_n (pc := 20) hG 0 rfl rfl dX7_readGroup_20 ?_
    refine z_puti (pc := 21) hG zc_X6 inX6 tyX6 tyX6_ok nmX6 DL_11 6 rfl (by decide) rfl w554 rfl rfl rfl dX7_readGroup_21 ?_
    refine z_aload_n (pc := 24) hG 1 rfl rfl dX7_readGroup_24 ?_
    replace h := zbind h
    obtain ⟨v3, hv3, h⟩ := h
    refine z_cvV (pc := 25) (A' := 0) (B' := 0) hG [] [] zc_X7 DL_19 (tX7_next hl0  (zi v1 11 6 v2) hv3) zy_X7_next ⟨w1121, wp25⟩ w1119 dX7_readGroup_25 rfl (Nat.le_of_ble_eq_true rfl) rfl rfl rfl (Nat.le_of_ble_eq_true rfl) rfl ?_
    refine z_iconst (pc := 28) hG kc_1 dX7_readGroup_28 ?_
    obtain rfl := Option.some.inj h
    exact z_iret (pc := 29) hG rfl rfl hk dX7_readGroup_29
  · replace h := zif_t hc h
    refine z_iconst (pc := 14) hG kc_0 dX7_readGroup_14 ?_
    obtain rfl := Option.some.inj h
    exact z_iret (pc := 15) hG rfl rfl hk dX7_readGroup_15
noncomputable def nJ0_coder_7d493_901 : Option Int32 :=
  if (1 : Int32) = 0 then (some ((1 : Int32))) else (some ((0 : Int32)))
set_option maxHeartbeats 60000 in
theorem tJ0_coder_7d493_901 {l : Launch} (hl0 : l.flags = flags0) (g : zS) {r : Int32} (h : nJ0_coder_7d493_901  = some r) : zC l yJ0_coder_7d493 cJ0_coder_7d493 1 ((Option.some Jvm.ClassFile.FieldType.byte)) 0 0 0 [.ref 901] zD g (.inl (some (.int r)), zD, g) := by
  refine zC_of hl0 rfl (Nat.le_of_ble_eq_true rfl) (fun x hG hxl hk _ => ?_)
  subst hxl
  show zK x 0 0 [(0, .ref 901)] [] zD g 0 0
  unfold nJ0_coder_7d493_901 at h
  refine z_cstr (pc := 0) hG w915 dJ0_coder_7d493_0 ?_
  refine z_if_eq (pc := 3) (tgt := 13) hG dJ0_coder_7d493_3 rfl (fun hc => ?_) (fun hc => ?_)
  · replace h := zif_t hc h
    refine z_iconst (pc := 13) hG kc_1 dJ0_coder_7d493_13 ?_
    obtain rfl := Option.some.inj h
    exact z_iret (pc := 14) hG rfl rfl hk dJ0_coder_7d493_14
  · replace h := zif_f hc h
    refine z_aload_n (pc := 6) hG 0 rfl rfl dJ0_coder_7d493_6 ?_
    refine z_scod (pc := 7) (q := 901) hG rfl w1060 dJ0_coder_7d493_7 ?_
    refine z_goto (pc := 10) (tgt := 14) hG dJ0_coder_7d493_10 rfl ?_
    obtain rfl := Option.some.inj h
    exact z_iret (pc := 14) hG rfl rfl hk dJ0_coder_7d493_14
noncomputable def nJ0_length_8abf5_901 : Option Int32 :=
  (nJ0_coder_7d493_901 ).bind fun v1 => some (((nI (slen.getD (zsj 901) 0)) >>> (v1 &&& 31)))
set_option maxHeartbeats 60000 in
theorem tJ0_length_8abf5_901 {l : Launch} (hl0 : l.flags = flags0) (g : zS) {r : Int32} (h : nJ0_length_8abf5_901  = some r) : zC l yJ0_length_8abf5 cJ0_length_8abf5 1 ((Option.some Jvm.ClassFile.FieldType.int)) 1 0 0 [.ref 901] zD g (.inl (some (.int r)), zD, g) := by
  refine zC_of hl0 rfl (Nat.le_of_ble_eq_true rfl) (fun x hG hxl hk _ => ?_)
  subst hxl
  show zK x 1 0 [(0, .ref 901)] [] zD g 0 0
  unfold nJ0_length_8abf5_901 at h
  refine z_aload_n (pc := 0) hG 0 rfl rfl dJ0_length_8abf5_0 ?_
  refine z_sval (pc := 1) (q := 901) hG rfl w1059 dJ0_length_8abf5_1 ?_
  refine z_slen (pc := 4) (q := 901) hG rfl rfl dJ0_length_8abf5_4 ?_
  refine z_aload_n (pc := 5) hG 0 rfl rfl dJ0_length_8abf5_5 ?_
  replace h := zbind h
  obtain ⟨v1, hv1, h⟩ := h
  refine z_cvSI (pc := 6) (A' := 0) (B' := 0) hG [] [.int (nI (slen.getD (zsj 901) 0))] (rfl : zsq 901 = true) (tJ0_coder_7d493_901 hl0  g hv1) zy_J0_coder_7d493 ⟨w912, w913⟩ w911 dJ0_length_8abf5_6 rfl (Nat.le_of_ble_eq_true rfl) rfl rfl rfl (Nat.le_of_ble_eq_true rfl) rfl ?_
  refine z_ishr (pc := 9) hG dJ0_length_8abf5_9 ?_
  obtain rfl := Option.some.inj h
  exact z_iret (pc := 10) hG rfl rfl hk dJ0_length_8abf5_10
noncomputable def nJ0_isLatin1_aae02_901 : Option Int32 :=
  if (1 : Int32) = 0 then (some ((0 : Int32))) else (if (0 : Int32) = 0 then (some ((1 : Int32))) else (some ((0 : Int32))))
set_option maxHeartbeats 60000 in
theorem tJ0_isLatin1_aae02_901 {l : Launch} (hl0 : l.flags = flags0) (g : zS) {r : Int32} (h : nJ0_isLatin1_aae02_901  = some r) : zC l yJ0_isLatin1_aae02 cJ0_isLatin1_aae02 1 ((Option.some Jvm.ClassFile.FieldType.boolean)) 0 0 0 [.ref 901] zD g (.inl (some (.int r)), zD, g) := by
  refine zC_of hl0 rfl (Nat.le_of_ble_eq_true rfl) (fun x hG hxl hk _ => ?_)
  subst hxl
  show zK x 0 0 [(0, .ref 901)] [] zD g 0 0
  unfold nJ0_isLatin1_aae02_901 at h
  refine z_cstr (pc := 0) hG w915 dJ0_isLatin1_aae02_0 ?_
  refine z_if_eq (pc := 3) (tgt := 17) hG dJ0_isLatin1_aae02_3 rfl (fun hc => ?_) (fun hc => ?_)
  · replace h := zif_t hc h
    refine z_iconst (pc := 17) hG kc_0 dJ0_isLatin1_aae02_17 ?_
    obtain rfl := Option.some.inj h
    exact z_iret (pc := 18) hG rfl rfl hk dJ0_isLatin1_aae02_18
  · replace h := zif_f hc h
    refine z_aload_n (pc := 6) hG 0 rfl rfl dJ0_isLatin1_aae02_6 ?_
    refine z_scod (pc := 7) (q := 901) hG rfl w1060 dJ0_isLatin1_aae02_7 ?_
    refine z_if_ne (pc := 10) (tgt := 17) hG dJ0_isLatin1_aae02_10 rfl (fun hc => ?_) (fun hc => ?_)
    · replace h := zif_f hc h
      refine z_iconst (pc := 17) hG kc_0 dJ0_isLatin1_aae02_17 ?_
      obtain rfl := Option.some.inj h
      exact z_iret (pc := 18) hG rfl rfl hk dJ0_isLatin1_aae02_18
    · replace h := zif_t hc h
      refine z_iconst (pc := 13) hG kc_1 dJ0_isLatin1_aae02_13 ?_
      refine z_goto (pc := 14) (tgt := 18) hG dJ0_isLatin1_aae02_14 rfl ?_
      obtain rfl := Option.some.inj h
      exact z_iret (pc := 18) hG rfl rfl hk dJ0_isLatin1_aae02_18
noncomputable def nJ1_charAt_3b067_921 (a1 : Int32) : Option Int32 :=
  (nJ0_checkIndex_df160 a1 (nI (slen.getD (zsj 901) 0))).bind fun v1 => zchk (zin a1 (slen.getD (zsj 901) 0)) (zchk (znc ((((sbyt.getD (zsj 901) []).getD a1.toNatClampNeg 0) &&& (255 : Int32)).toUInt32 % 65536).toInt32) (some (((((sbyt.getD (zsj 901) []).getD a1.toNatClampNeg 0) &&& (255 : Int32)).toUInt32 % 65536).toInt32)))
set_option maxHeartbeats 60000 in
theorem tJ1_charAt_3b067_921 {l : Launch} (hl0 : l.flags = flags0) (a1 : Int32) (g : zS) {r : Int32} (h : nJ1_charAt_3b067_921 a1 = some r) : zC l yJ1_charAt_3b067 cJ1_charAt_3b067 2 ((Option.some Jvm.ClassFile.FieldType.char)) 2 0 0 [.ref 921, .int a1] zD g (.inl (some (.int r)), zD, g) := by
  refine zC_of hl0 rfl (Nat.le_of_ble_eq_true rfl) (fun x hG hxl hk _ => ?_)
  subst hxl
  show zK x 2 0 [(0, .ref 921), (1, .int a1)] [] zD g 0 0
  unfold nJ1_charAt_3b067_921 at h
  refine z_iload_n (pc := 0) hG 1 rfl rfl dJ1_charAt_3b067_0 ?_
  refine z_aload_n (pc := 1) hG 0 rfl rfl dJ1_charAt_3b067_1 ?_
  refine z_slen (pc := 2) (q := 901) hG rfl rfl dJ1_charAt_3b067_2 ?_
  replace h := zbind h
  obtain ⟨v1, hv1, h⟩ := h
  refine z_csV (pc := 3) (A' := 0) (B' := 0) hG [.int a1, .int (nI (slen.getD (zsj 901) 0))] [] (tJ0_checkIndex_df160 hl0 a1 (nI (slen.getD (zsj 901) 0)) g hv1) zy_J0_checkIndex_df160 w967 w1091 dJ1_charAt_3b067_3 rfl (Nat.le_of_ble_eq_true rfl) rfl rfl rfl (Nat.le_of_ble_eq_true rfl) rfl ?_
  refine z_aload_n (pc := 6) hG 0 rfl rfl dJ1_charAt_3b067_6 ?_
  refine z_iload_n (pc := 7) hG 1 rfl rfl dJ1_charAt_3b067_7 ?_
  replace h := zchk_some h
  obtain ⟨hc, h⟩ := h
  refine z_sbyt (pc := 8) (q := 901) hG rfl rfl (zin_in hc) dJ1_charAt_3b067_8 ?_
  refine z_sipush (pc := 9) hG ks_255 dJ1_charAt_3b067_9 ?_
  refine z_iand (pc := 12) hG dJ1_charAt_3b067_12 ?_
  refine z_i2c (pc := 13) hG dJ1_charAt_3b067_13 ?_
  replace h := zchk_some h
  obtain ⟨hc, h⟩ := h
  obtain rfl := Option.some.inj h
  exact z_iret (pc := 14) hG rfl (znc_n hc) hk dJ1_charAt_3b067_14
noncomputable def nJ0_charAt_5068e_901 (a1 : Int32) : Option Int32 :=
  (nJ0_isLatin1_aae02_901 ).bind fun v1 => if v1 = 0 then (none) else ((nJ1_charAt_3b067_921 a1).bind fun v2 => zchk (znc v2) (some (v2)))
set_option maxHeartbeats 60000 in
theorem tJ0_charAt_5068e_901 {l : Launch} (hl0 : l.flags = flags0) (a1 : Int32) (g : zS) {r : Int32} (h : nJ0_charAt_5068e_901 a1 = some r) : zC l yJ0_charAt_5068e cJ0_charAt_5068e 2 ((Option.some Jvm.ClassFile.FieldType.char)) 3 0 0 [.ref 901, .int a1] zD g (.inl (some (.int r)), zD, g) := by
  refine zC_of hl0 rfl (Nat.le_of_ble_eq_true rfl) (fun x hG hxl hk _ => ?_)
  subst hxl
  show zK x 3 0 [(0, .ref 901), (1, .int a1)] [] zD g 0 0
  unfold nJ0_charAt_5068e_901 at h
  refine z_aload_n (pc := 0) hG 0 rfl rfl dJ0_charAt_5068e_0 ?_
  replace h := zbind h
  obtain ⟨v1, hv1, h⟩ := h
  refine z_cvSI (pc := 1) (A' := 0) (B' := 0) hG [] [] (rfl : zsq 901 = true) (tJ0_isLatin1_aae02_901 hl0  g hv1) zy_J0_isLatin1_aae02 ⟨w1085, w1086⟩ w1084 dJ0_charAt_5068e_1 rfl (Nat.le_of_ble_eq_true rfl) rfl rfl rfl (Nat.le_of_ble_eq_true rfl) rfl ?_
  refine z_if_eq (pc := 4) (tgt := 16) hG dJ0_charAt_5068e_4 rfl (fun hc => ?_) (fun hc => ?_)
  · replace h := zif_t hc h
    cases h
  · replace h := zif_f hc h
    refine z_aload_n (pc := 7) hG 0 rfl rfl dJ0_charAt_5068e_7 ?_
    refine z_sval (pc := 8) (q := 901) hG rfl w1059 dJ0_charAt_5068e_8 ?_
    refine z_iload_n (pc := 11) hG 1 rfl rfl dJ0_charAt_5068e_11 ?_
    replace h := zbind h
    obtain ⟨v2, hv2, h⟩ := h
    refine z_csI (pc := 12) (A' := 0) (B' := 0) hG [.ref 921, .int a1] [] (tJ1_charAt_3b067_921 hl0 a1 g hv2) zy_J1_charAt_3b067 w1089 w1088 dJ0_charAt_5068e_12 rfl (Nat.le_of_ble_eq_true rfl) rfl rfl rfl (Nat.le_of_ble_eq_true rfl) rfl ?_
    replace h := zchk_some h
    obtain ⟨hc, h⟩ := h
    obtain rfl := Option.some.inj h
    exact z_iret (pc := 15) hG rfl (znc_n hc) hk dJ0_charAt_5068e_15
noncomputable def wX7_isWord_901_22 (a2 : Int32) (g : zS) (s : Int32) : Option (Int32 ⊕ Int32) :=
  if a2 ≤ s then (zex (some ((1 : Int32)))) else ((nX9_at ((g.1 19 2) + s) g).bind fun v2 => (nJ0_charAt_5068e_901 s).bind fun v3 => if v2 = v3 then (some (.inl (s + (1 : Int32)))) else (zex (some ((0 : Int32)))))
noncomputable def nX7_isWord_901 (g : zS) : Option Int32 :=
  (nJ0_length_8abf5_901 ).bind fun v1 => if ((g.1 19 3) - (g.1 19 2)) = v1 then (wh (wX7_isWord_901_22 v1 g) (0 : Int32)) else (some ((0 : Int32)))
def qX7_isWord_901_22 (x : zXx) (a2 : Int32) (g : zS) (o : Int32 ⊕ Int32) : Prop := match o with
  | .inl s => zK x 4 22 [(0, .ref 19), (1, .ref 901), (2, .int a2), (3, .int s)] [] zD g 0 0
  | .inr r => ztg x = (.inl (some (.int r)), zD, g)
set_option maxHeartbeats 60000 in
theorem kwX7_isWord_901_22 {x : zXx} (hG : zG x cX7_isWord 4 RX7 ((Option.some Jvm.ClassFile.FieldType.boolean))) (hl0 : (zl0 x).flags = flags0) (a2 : Int32) (g : zS) {o : Int32} (hk : ztg x = (.inl (some (.int o)), zD, g)) : ∀ s : Int32, wh (wX7_isWord_901_22 a2 g) s = some o → zK x 4 22 [(0, .ref 19), (1, .ref 901), (2, .int a2), (3, .int s)] [] zD g 0 0 := by
  refine wh_ind (fun s : Int32 => zK x 4 22 [(0, .ref 19), (1, .ref 901), (2, .int a2), (3, .int s)] [] zD g 0 0) (fun s o h hk2 => ?_)
  replace hk : qX7_isWord_901_22 x a2 g o := by
    cases o with
    | inl s => exact hk2
    | inr r => subst hk2; exact hk
  clear hk2
  unfold wX7_isWord_901_22 at h
  refine z_iload_n (pc := 22) hG 3 rfl rfl dX7_isWord_22 ?_
  refine z_iload_n (pc := 23) hG 2 rfl rfl dX7_isWord_23 ?_
  refine z_icmp_ge (pc := 24) (tgt := 56) hG dX7_isWord_24 rfl (fun hc => ?_) (fun hc => ?_)
  · replace h := zif_t hc h
    replace h := zex_some h
    obtain ⟨o, h, rfl⟩ := h
    refine z_iconst (pc := 56) hG kc_1 dX7_isWord_56 ?_
    obtain rfl := Option.some.inj h
    exact z_iret (pc := 57) hG rfl rfl hk dX7_isWord_57
  · replace h := zif_f hc h
    refine z_aload_n (pc := 27) hG 0 rfl rfl dX7_isWord_27 ?_
    refine z_getr (pc := 28) hG zc_X7 inX7 DL_19 0 rfl (by decide) rfl w598 dX7_isWord_28 ?_
    refine z_aload_n (pc := 31) hG 0 rfl rfl dX7_isWord_31 ?_
    refine z_geti (pc := 32) hG zc_X7 inX7 DL_19 2 rfl (by decide) rfl w600 dX7_isWord_32 ?_
    refine z_iload_n (pc := 35) hG 3 rfl rfl dX7_isWord_35 ?_
    refine z_iadd (pc := 36) hG dX7_isWord_36 ?_
    replace h := zbind h
    obtain ⟨v2, hv2, h⟩ := h
    refine z_cvI (pc := 37) (A' := 0) (B' := 0) hG [.int ((g.1 19 2) + s)] [] zc_X9 DL_1 (tX9_at hl0 ((g.1 19 2) + s) g hv2) zy_X9_at ⟨w1124, w1125⟩ w1123 dX7_isWord_37 rfl (Nat.le_of_ble_eq_true rfl) rfl rfl rfl (Nat.le_of_ble_eq_true rfl) rfl ?_
    refine z_aload_n (pc := 40) hG 1 rfl rfl dX7_isWord_40 ?_
    refine z_iload_n (pc := 41) hG 3 rfl rfl dX7_isWord_41 ?_
    replace h := zbind h
    obtain ⟨v3, hv3, h⟩ := h
    refine z_cvSI (pc := 42) (A' := 0) (B' := 0) hG [.int s] [.int v2] (rfl : zsq 901 = true) (tJ0_charAt_5068e_901 hl0 s g hv3) zy_J0_charAt_5068e ⟨w1081, w1082⟩ w1146 dX7_isWord_42 rfl (Nat.le_of_ble_eq_true rfl) rfl rfl rfl (Nat.le_of_ble_eq_true rfl) rfl ?_
    refine z_icmp_eq (pc := 45) (tgt := 50) hG dX7_isWord_45 rfl (fun hc => ?_) (fun hc => ?_)
    · replace h := zif_t hc h
      refine z_iinc (pc := 50) (ls' := [(3, .int (s + (1 : Int32))), (0, .ref 19), (1, .ref 901), (2, .int a2)]) hG 3 rfl [0, 1, 2, 3] (ki_1 _) (by decide) rfl dX7_isWord_50 ?_
      refine z_goto (pc := 53) (tgt := 22) hG dX7_isWord_53 rfl ?_
      obtain rfl := Option.some.inj h
      refine z_sub (ls' := [(0, .ref 19), (1, .ref 901), (2, .int a2), (3, .int (s + (1 : Int32)))]) [1, 2, 3, 0] rfl ?_
      exact hk
    · replace h := zif_f hc h
      replace h := zex_some h
      obtain ⟨o, h, rfl⟩ := h
      refine z_iconst (pc := 48) hG kc_0 dX7_isWord_48 ?_
      obtain rfl := Option.some.inj h
      exact z_iret (pc := 49) hG rfl rfl hk dX7_isWord_49
set_option maxHeartbeats 60000 in
theorem tX7_isWord_901 {l : Launch} (hl0 : l.flags = flags0) (g : zS) {r : Int32} (h : nX7_isWord_901 g = some r) : zC l yX7_isWord cX7_isWord 4 ((Option.some Jvm.ClassFile.FieldType.boolean)) 4 0 0 [.ref 19, .ref 901] zD g (.inl (some (.int r)), zD, g) := by
  refine zC_of hl0 rfl (Nat.le_of_ble_eq_true rfl) (fun x hG hxl hk _ => ?_)
  subst hxl
  show zK x 4 0 [(0, .ref 19), (1, .ref 901)] [] zD g 0 0
  unfold nX7_isWord_901 at h
  refine z_aload_n (pc := 0) hG 1 rfl rfl dX7_isWord_0 ?_
  replace h := zbind h
  obtain ⟨v1, hv1, h⟩ := h
  refine z_cvSI (pc := 1) (A' := 0) (B' := 0) hG [] [] (rfl : zsq 901 = true) (tJ0_length_8abf5_901 hl0  g hv1) zy_J0_length_8abf5 ⟨w908, w909⟩ w1145 dX7_isWord_1 rfl (Nat.le_of_ble_eq_true rfl) rfl rfl rfl (Nat.le_of_ble_eq_true rfl) rfl ?_
  refine z_istore_n (pc := 4) (ls' := [(2, .int v1), (0, .ref 19), (1, .ref 901)]) hG [0, 1, 2] rfl (by decide) rfl dX7_isWord_4 ?_
  refine z_aload_n (pc := 5) hG 1 rfl rfl dX7_isWord_5 ?_
  refine z_geti (pc := 6) hG zc_X7 inX7 DL_19 3 rfl (by decide) rfl w601 dX7_isWord_6 ?_
  refine z_aload_n (pc := 9) hG 1 rfl rfl dX7_isWord_9 ?_
  refine z_geti (pc := 10) hG zc_X7 inX7 DL_19 2 rfl (by decide) rfl w600 dX7_isWord_10 ?_
  refine z_isub (pc := 13) hG dX7_isWord_13 ?_
  refine z_iload_n (pc := 14) hG 0 rfl rfl dX7_isWord_14 ?_
  refine z_icmp_eq (pc := 15) (tgt := 20) hG dX7_isWord_15 rfl (fun hc => ?_) (fun hc => ?_)
  · replace h := zif_t hc h
    refine z_iconst (pc := 20) hG kc_0 dX7_isWord_20 ?_
    refine z_istore_n (pc := 21) (ls' := [(3, .int (0 : Int32)), (2, .int v1), (0, .ref 19), (1, .ref 901)]) hG [0, 1, 2, 3] rfl (by decide) rfl dX7_isWord_21 ?_
    refine z_sub (ls' := [(0, .ref 19), (1, .ref 901), (2, .int v1), (3, .int (0 : Int32))]) [2, 3, 1, 0] rfl ?_
    exact kwX7_isWord_901_22 hG hl0 v1 g hk (0 : Int32) h
  · replace h := zif_f hc h
    refine z_iconst (pc := 18) hG kc_0 dX7_isWord_18 ?_
    obtain rfl := Option.some.inj h
    exact z_iret (pc := 19) hG rfl rfl hk dX7_isWord_19
noncomputable def nJ0_coder_7d493_902 : Option Int32 :=
  if (1 : Int32) = 0 then (some ((1 : Int32))) else (some ((0 : Int32)))
set_option maxHeartbeats 60000 in
theorem tJ0_coder_7d493_902 {l : Launch} (hl0 : l.flags = flags0) (g : zS) {r : Int32} (h : nJ0_coder_7d493_902  = some r) : zC l yJ0_coder_7d493 cJ0_coder_7d493 1 ((Option.some Jvm.ClassFile.FieldType.byte)) 0 0 0 [.ref 902] zD g (.inl (some (.int r)), zD, g) := by
  refine zC_of hl0 rfl (Nat.le_of_ble_eq_true rfl) (fun x hG hxl hk _ => ?_)
  subst hxl
  show zK x 0 0 [(0, .ref 902)] [] zD g 0 0
  unfold nJ0_coder_7d493_902 at h
  refine z_cstr (pc := 0) hG w915 dJ0_coder_7d493_0 ?_
  refine z_if_eq (pc := 3) (tgt := 13) hG dJ0_coder_7d493_3 rfl (fun hc => ?_) (fun hc => ?_)
  · replace h := zif_t hc h
    refine z_iconst (pc := 13) hG kc_1 dJ0_coder_7d493_13 ?_
    obtain rfl := Option.some.inj h
    exact z_iret (pc := 14) hG rfl rfl hk dJ0_coder_7d493_14
  · replace h := zif_f hc h
    refine z_aload_n (pc := 6) hG 0 rfl rfl dJ0_coder_7d493_6 ?_
    refine z_scod (pc := 7) (q := 902) hG rfl w1060 dJ0_coder_7d493_7 ?_
    refine z_goto (pc := 10) (tgt := 14) hG dJ0_coder_7d493_10 rfl ?_
    obtain rfl := Option.some.inj h
    exact z_iret (pc := 14) hG rfl rfl hk dJ0_coder_7d493_14
noncomputable def nJ0_length_8abf5_902 : Option Int32 :=
  (nJ0_coder_7d493_902 ).bind fun v1 => some (((nI (slen.getD (zsj 902) 0)) >>> (v1 &&& 31)))
set_option maxHeartbeats 60000 in
theorem tJ0_length_8abf5_902 {l : Launch} (hl0 : l.flags = flags0) (g : zS) {r : Int32} (h : nJ0_length_8abf5_902  = some r) : zC l yJ0_length_8abf5 cJ0_length_8abf5 1 ((Option.some Jvm.ClassFile.FieldType.int)) 1 0 0 [.ref 902] zD g (.inl (some (.int r)), zD, g) := by
  refine zC_of hl0 rfl (Nat.le_of_ble_eq_true rfl) (fun x hG hxl hk _ => ?_)
  subst hxl
  show zK x 1 0 [(0, .ref 902)] [] zD g 0 0
  unfold nJ0_length_8abf5_902 at h
  refine z_aload_n (pc := 0) hG 0 rfl rfl dJ0_length_8abf5_0 ?_
  refine z_sval (pc := 1) (q := 902) hG rfl w1059 dJ0_length_8abf5_1 ?_
  refine z_slen (pc := 4) (q := 902) hG rfl rfl dJ0_length_8abf5_4 ?_
  refine z_aload_n (pc := 5) hG 0 rfl rfl dJ0_length_8abf5_5 ?_
  replace h := zbind h
  obtain ⟨v1, hv1, h⟩ := h
  refine z_cvSI (pc := 6) (A' := 0) (B' := 0) hG [] [.int (nI (slen.getD (zsj 902) 0))] (rfl : zsq 902 = true) (tJ0_coder_7d493_902 hl0  g hv1) zy_J0_coder_7d493 ⟨w912, w913⟩ w911 dJ0_length_8abf5_6 rfl (Nat.le_of_ble_eq_true rfl) rfl rfl rfl (Nat.le_of_ble_eq_true rfl) rfl ?_
  refine z_ishr (pc := 9) hG dJ0_length_8abf5_9 ?_
  obtain rfl := Option.some.inj h
  exact z_iret (pc := 10) hG rfl rfl hk dJ0_length_8abf5_10
noncomputable def nJ0_isLatin1_aae02_902 : Option Int32 :=
  if (1 : Int32) = 0 then (some ((0 : Int32))) else (if (0 : Int32) = 0 then (some ((1 : Int32))) else (some ((0 : Int32))))
set_option maxHeartbeats 60000 in
theorem tJ0_isLatin1_aae02_902 {l : Launch} (hl0 : l.flags = flags0) (g : zS) {r : Int32} (h : nJ0_isLatin1_aae02_902  = some r) : zC l yJ0_isLatin1_aae02 cJ0_isLatin1_aae02 1 ((Option.some Jvm.ClassFile.FieldType.boolean)) 0 0 0 [.ref 902] zD g (.inl (some (.int r)), zD, g) := by
  refine zC_of hl0 rfl (Nat.le_of_ble_eq_true rfl) (fun x hG hxl hk _ => ?_)
  subst hxl
  show zK x 0 0 [(0, .ref 902)] [] zD g 0 0
  unfold nJ0_isLatin1_aae02_902 at h
  refine z_cstr (pc := 0) hG w915 dJ0_isLatin1_aae02_0 ?_
  refine z_if_eq (pc := 3) (tgt := 17) hG dJ0_isLatin1_aae02_3 rfl (fun hc => ?_) (fun hc => ?_)
  · replace h := zif_t hc h
    refine z_iconst (pc := 17) hG kc_0 dJ0_isLatin1_aae02_17 ?_
    obtain rfl := Option.some.inj h
    exact z_iret (pc := 18) hG rfl rfl hk dJ0_isLatin1_aae02_18
  · replace h := zif_f hc h
    refine z_aload_n (pc := 6) hG 0 rfl rfl dJ0_isLatin1_aae02_6 ?_
    refine z_scod (pc := 7) (q := 902) hG rfl w1060 dJ0_isLatin1_aae02_7 ?_
    refine z_if_ne (pc := 10) (tgt := 17) hG dJ0_isLatin1_aae02_10 rfl (fun hc => ?_) (fun hc => ?_)
    · replace h := zif_f hc h
      refine z_iconst (pc := 17) hG kc_0 dJ0_isLatin1_aae02_17 ?_
      obtain rfl := Option.some.inj h
      exact z_iret (pc := 18) hG rfl rfl hk dJ0_isLatin1_aae02_18
    · replace h := zif_t hc h
      refine z_iconst (pc := 13) hG kc_1 dJ0_isLatin1_aae02_13 ?_
      refine z_goto (pc := 14) (tgt := 18) hG dJ0_isLatin1_aae02_14 rfl ?_
      obtain rfl := Option.some.inj h
      exact z_iret (pc := 18) hG rfl rfl hk dJ0_isLatin1_aae02_18
noncomputable def nJ1_charAt_3b067_922 (a1 : Int32) : Option Int32 :=
  (nJ0_checkIndex_df160 a1 (nI (slen.getD (zsj 902) 0))).bind fun v1 => zchk (zin a1 (slen.getD (zsj 902) 0)) (zchk (znc ((((sbyt.getD (zsj 902) []).getD a1.toNatClampNeg 0) &&& (255 : Int32)).toUInt32 % 65536).toInt32) (some (((((sbyt.getD (zsj 902) []).getD a1.toNatClampNeg 0) &&& (255 : Int32)).toUInt32 % 65536).toInt32)))
set_option maxHeartbeats 60000 in
theorem tJ1_charAt_3b067_922 {l : Launch} (hl0 : l.flags = flags0) (a1 : Int32) (g : zS) {r : Int32} (h : nJ1_charAt_3b067_922 a1 = some r) : zC l yJ1_charAt_3b067 cJ1_charAt_3b067 2 ((Option.some Jvm.ClassFile.FieldType.char)) 2 0 0 [.ref 922, .int a1] zD g (.inl (some (.int r)), zD, g) := by
  refine zC_of hl0 rfl (Nat.le_of_ble_eq_true rfl) (fun x hG hxl hk _ => ?_)
  subst hxl
  show zK x 2 0 [(0, .ref 922), (1, .int a1)] [] zD g 0 0
  unfold nJ1_charAt_3b067_922 at h
  refine z_iload_n (pc := 0) hG 1 rfl rfl dJ1_charAt_3b067_0 ?_
  refine z_aload_n (pc := 1) hG 0 rfl rfl dJ1_charAt_3b067_1 ?_
  refine z_slen (pc := 2) (q := 902) hG rfl rfl dJ1_charAt_3b067_2 ?_
  replace h := zbind h
  obtain ⟨v1, hv1, h⟩ := h
  refine z_csV (pc := 3) (A' := 0) (B' := 0) hG [.int a1, .int (nI (slen.getD (zsj 902) 0))] [] (tJ0_checkIndex_df160 hl0 a1 (nI (slen.getD (zsj 902) 0)) g hv1) zy_J0_checkIndex_df160 w967 w1091 dJ1_charAt_3b067_3 rfl (Nat.le_of_ble_eq_true rfl) rfl rfl rfl (Nat.le_of_ble_eq_true rfl) rfl ?_
  refine z_aload_n (pc := 6) hG 0 rfl rfl dJ1_charAt_3b067_6 ?_
  refine z_iload_n (pc := 7) hG 1 rfl rfl dJ1_charAt_3b067_7 ?_
  replace h := zchk_some h
  obtain ⟨hc, h⟩ := h
  refine z_sbyt (pc := 8) (q := 902) hG rfl rfl (zin_in hc) dJ1_charAt_3b067_8 ?_
  refine z_sipush (pc := 9) hG ks_255 dJ1_charAt_3b067_9 ?_
  refine z_iand (pc := 12) hG dJ1_charAt_3b067_12 ?_
  refine z_i2c (pc := 13) hG dJ1_charAt_3b067_13 ?_
  replace h := zchk_some h
  obtain ⟨hc, h⟩ := h
  obtain rfl := Option.some.inj h
  exact z_iret (pc := 14) hG rfl (znc_n hc) hk dJ1_charAt_3b067_14
noncomputable def nJ0_charAt_5068e_902 (a1 : Int32) : Option Int32 :=
  (nJ0_isLatin1_aae02_902 ).bind fun v1 => if v1 = 0 then (none) else ((nJ1_charAt_3b067_922 a1).bind fun v2 => zchk (znc v2) (some (v2)))
set_option maxHeartbeats 60000 in
theorem tJ0_charAt_5068e_902 {l : Launch} (hl0 : l.flags = flags0) (a1 : Int32) (g : zS) {r : Int32} (h : nJ0_charAt_5068e_902 a1 = some r) : zC l yJ0_charAt_5068e cJ0_charAt_5068e 2 ((Option.some Jvm.ClassFile.FieldType.char)) 3 0 0 [.ref 902, .int a1] zD g (.inl (some (.int r)), zD, g) := by
  refine zC_of hl0 rfl (Nat.le_of_ble_eq_true rfl) (fun x hG hxl hk _ => ?_)
  subst hxl
  show zK x 3 0 [(0, .ref 902), (1, .int a1)] [] zD g 0 0
  unfold nJ0_charAt_5068e_902 at h
  refine z_aload_n (pc := 0) hG 0 rfl rfl dJ0_charAt_5068e_0 ?_
  replace h := zbind h
  obtain ⟨v1, hv1, h⟩ := h
  refine z_cvSI (pc := 1) (A' := 0) (B' := 0) hG [] [] (rfl : zsq 902 = true) (tJ0_isLatin1_aae02_902 hl0  g hv1) zy_J0_isLatin1_aae02 ⟨w1085, w1086⟩ w1084 dJ0_charAt_5068e_1 rfl (Nat.le_of_ble_eq_true rfl) rfl rfl rfl (Nat.le_of_ble_eq_true rfl) rfl ?_
  refine z_if_eq (pc := 4) (tgt := 16) hG dJ0_charAt_5068e_4 rfl (fun hc => ?_) (fun hc => ?_)
  · replace h := zif_t hc h
    cases h
  · replace h := zif_f hc h
    refine z_aload_n (pc := 7) hG 0 rfl rfl dJ0_charAt_5068e_7 ?_
    refine z_sval (pc := 8) (q := 902) hG rfl w1059 dJ0_charAt_5068e_8 ?_
    refine z_iload_n (pc := 11) hG 1 rfl rfl dJ0_charAt_5068e_11 ?_
    replace h := zbind h
    obtain ⟨v2, hv2, h⟩ := h
    refine z_csI (pc := 12) (A' := 0) (B' := 0) hG [.ref 922, .int a1] [] (tJ1_charAt_3b067_922 hl0 a1 g hv2) zy_J1_charAt_3b067 w1089 w1088 dJ0_charAt_5068e_12 rfl (Nat.le_of_ble_eq_true rfl) rfl rfl rfl (Nat.le_of_ble_eq_true rfl) rfl ?_
    replace h := zchk_some h
    obtain ⟨hc, h⟩ := h
    obtain rfl := Option.some.inj h
    exact z_iret (pc := 15) hG rfl (znc_n hc) hk dJ0_charAt_5068e_15
noncomputable def wX7_isWord_902_22 (a2 : Int32) (g : zS) (s : Int32) : Option (Int32 ⊕ Int32) :=
  if a2 ≤ s then (zex (some ((1 : Int32)))) else ((nX9_at ((g.1 19 2) + s) g).bind fun v2 => (nJ0_charAt_5068e_902 s).bind fun v3 => if v2 = v3 then (some (.inl (s + (1 : Int32)))) else (zex (some ((0 : Int32)))))
noncomputable def nX7_isWord_902 (g : zS) : Option Int32 :=
  (nJ0_length_8abf5_902 ).bind fun v1 => if ((g.1 19 3) - (g.1 19 2)) = v1 then (wh (wX7_isWord_902_22 v1 g) (0 : Int32)) else (some ((0 : Int32)))
def qX7_isWord_902_22 (x : zXx) (a2 : Int32) (g : zS) (o : Int32 ⊕ Int32) : Prop := match o with
  | .inl s => zK x 4 22 [(0, .ref 19), (1, .ref 902), (2, .int a2), (3, .int s)] [] zD g 0 0
  | .inr r => ztg x = (.inl (some (.int r)), zD, g)
set_option maxHeartbeats 60000 in
theorem kwX7_isWord_902_22 {x : zXx} (hG : zG x cX7_isWord 4 RX7 ((Option.some Jvm.ClassFile.FieldType.boolean))) (hl0 : (zl0 x).flags = flags0) (a2 : Int32) (g : zS) {o : Int32} (hk : ztg x = (.inl (some (.int o)), zD, g)) : ∀ s : Int32, wh (wX7_isWord_902_22 a2 g) s = some o → zK x 4 22 [(0, .ref 19), (1, .ref 902), (2, .int a2), (3, .int s)] [] zD g 0 0 := by
  refine wh_ind (fun s : Int32 => zK x 4 22 [(0, .ref 19), (1, .ref 902), (2, .int a2), (3, .int s)] [] zD g 0 0) (fun s o h hk2 => ?_)
  replace hk : qX7_isWord_902_22 x a2 g o := by
    cases o with
    | inl s => exact hk2
    | inr r => subst hk2; exact hk
  clear hk2
  unfold wX7_isWord_902_22 at h
  refine z_iload_n (pc := 22) hG 3 rfl rfl dX7_isWord_22 ?_
  refine z_iload_n (pc := 23) hG 2 rfl rfl dX7_isWord_23 ?_
  refine z_icmp_ge (pc := 24) (tgt := 56) hG dX7_isWord_24 rfl (fun hc => ?_) (fun hc => ?_)
  · replace h := zif_t hc h
    replace h := zex_some h
    obtain ⟨o, h, rfl⟩ := h
    refine z_iconst (pc := 56) hG kc_1 dX7_isWord_56 ?_
    obtain rfl := Option.some.inj h
    exact z_iret (pc := 57) hG rfl rfl hk dX7_isWord_57
  · replace h := zif_f hc h
    refine z_aload_n (pc := 27) hG 0 rfl rfl dX7_isWord_27 ?_
    refine z_getr (pc := 28) hG zc_X7 inX7 DL_19 0 rfl (by decide) rfl w598 dX7_isWord_28 ?_
    refine z_aload_n (pc := 31) hG 0 rfl rfl dX7_isWord_31 ?_
    refine z_geti (pc := 32) hG zc_X7 inX7 DL_19 2 rfl (by decide) rfl w600 dX7_isWord_32 ?_
    refine z_iload_n (pc := 35) hG 3 rfl rfl dX7_isWord_35 ?_
    refine z_iadd (pc := 36) hG dX7_isWord_36 ?_
    replace h := zbind h
    obtain ⟨v2, hv2, h⟩ := h
    refine z_cvI (pc := 37) (A' := 0) (B' := 0) hG [.int ((g.1 19 2) + s)] [] zc_X9 DL_1 (tX9_at hl0 ((g.1 19 2) + s) g hv2) zy_X9_at ⟨w1124, w1125⟩ w1123 dX7_isWord_37 rfl (Nat.le_of_ble_eq_true rfl) rfl rfl rfl (Nat.le_of_ble_eq_true rfl) rfl ?_
    refine z_aload_n (pc := 40) hG 1 rfl rfl dX7_isWord_40 ?_
    refine z_iload_n (pc := 41) hG 3 rfl rfl dX7_isWord_41 ?_
    replace h := zbind h
    obtain ⟨v3, hv3, h⟩ := h
    refine z_cvSI (pc := 42) (A' := 0) (B' := 0) hG [.int s] [.int v2] (rfl : zsq 902 = true) (tJ0_charAt_5068e_902 hl0 s g hv3) zy_J0_charAt_5068e ⟨w1081, w1082⟩ w1146 dX7_isWord_42 rfl (Nat.le_of_ble_eq_true rfl) rfl rfl rfl (Nat.le_of_ble_eq_true rfl) rfl ?_
    refine z_icmp_eq (pc := 45) (tgt := 50) hG dX7_isWord_45 rfl (fun hc => ?_) (fun hc => ?_)
    · replace h := zif_t hc h
      refine z_iinc (pc := 50) (ls' := [(3, .int (s + (1 : Int32))), (0, .ref 19), (1, .ref 902), (2, .int a2)]) hG 3 rfl [0, 1, 2, 3] (ki_1 _) (by decide) rfl dX7_isWord_50 ?_
      refine z_goto (pc := 53) (tgt := 22) hG dX7_isWord_53 rfl ?_
      obtain rfl := Option.some.inj h
      refine z_sub (ls' := [(0, .ref 19), (1, .ref 902), (2, .int a2), (3, .int (s + (1 : Int32)))]) [1, 2, 3, 0] rfl ?_
      exact hk
    · replace h := zif_f hc h
      replace h := zex_some h
      obtain ⟨o, h, rfl⟩ := h
      refine z_iconst (pc := 48) hG kc_0 dX7_isWord_48 ?_
      obtain rfl := Option.some.inj h
      exact z_iret (pc := 49) hG rfl rfl hk dX7_isWord_49
set_option maxHeartbeats 60000 in
theorem tX7_isWord_902 {l : Launch} (hl0 : l.flags = flags0) (g : zS) {r : Int32} (h : nX7_isWord_902 g = some r) : zC l yX7_isWord cX7_isWord 4 ((Option.some Jvm.ClassFile.FieldType.boolean)) 4 0 0 [.ref 19, .ref 902] zD g (.inl (some (.int r)), zD, g) := by
  refine zC_of hl0 rfl (Nat.le_of_ble_eq_true rfl) (fun x hG hxl hk _ => ?_)
  subst hxl
  show zK x 4 0 [(0, .ref 19), (1, .ref 902)] [] zD g 0 0
  unfold nX7_isWord_902 at h
  refine z_aload_n (pc := 0) hG 1 rfl rfl dX7_isWord_0 ?_
  replace h := zbind h
  obtain ⟨v1, hv1, h⟩ := h
  refine z_cvSI (pc := 1) (A' := 0) (B' := 0) hG [] [] (rfl : zsq 902 = true) (tJ0_length_8abf5_902 hl0  g hv1) zy_J0_length_8abf5 ⟨w908, w909⟩ w1145 dX7_isWord_1 rfl (Nat.le_of_ble_eq_true rfl) rfl rfl rfl (Nat.le_of_ble_eq_true rfl) rfl ?_
  refine z_istore_n (pc := 4) (ls' := [(2, .int v1), (0, .ref 19), (1, .ref 902)]) hG [0, 1, 2] rfl (by decide) rfl dX7_isWord_4 ?_
  refine z_aload_n (pc := 5) hG 1 rfl rfl dX7_isWord_5 ?_
  refine z_geti (pc := 6) hG zc_X7 inX7 DL_19 3 rfl (by decide) rfl w601 dX7_isWord_6 ?_
  refine z_aload_n (pc := 9) hG 1 rfl rfl dX7_isWord_9 ?_
  refine z_geti (pc := 10) hG zc_X7 inX7 DL_19 2 rfl (by decide) rfl w600 dX7_isWord_10 ?_
  refine z_isub (pc := 13) hG dX7_isWord_13 ?_
  refine z_iload_n (pc := 14) hG 0 rfl rfl dX7_isWord_14 ?_
  refine z_icmp_eq (pc := 15) (tgt := 20) hG dX7_isWord_15 rfl (fun hc => ?_) (fun hc => ?_)
  · replace h := zif_t hc h
    refine z_iconst (pc := 20) hG kc_0 dX7_isWord_20 ?_
    refine z_istore_n (pc := 21) (ls' := [(3, .int (0 : Int32)), (2, .int v1), (0, .ref 19), (1, .ref 902)]) hG [0, 1, 2, 3] rfl (by decide) rfl dX7_isWord_21 ?_
    refine z_sub (ls' := [(0, .ref 19), (1, .ref 902), (2, .int v1), (3, .int (0 : Int32))]) [2, 3, 1, 0] rfl ?_
    exact kwX7_isWord_902_22 hG hl0 v1 g hk (0 : Int32) h
  · replace h := zif_f hc h
    refine z_iconst (pc := 18) hG kc_0 dX7_isWord_18 ?_
    obtain rfl := Option.some.inj h
    exact z_iret (pc := 19) hG rfl rfl hk dX7_isWord_19
noncomputable def nJ0_coder_7d493_903 : Option Int32 :=
  if (1 : Int32) = 0 then (some ((1 : Int32))) else (some ((0 : Int32)))
set_option maxHeartbeats 60000 in
theorem tJ0_coder_7d493_903 {l : Launch} (hl0 : l.flags = flags0) (g : zS) {r : Int32} (h : nJ0_coder_7d493_903  = some r) : zC l yJ0_coder_7d493 cJ0_coder_7d493 1 ((Option.some Jvm.ClassFile.FieldType.byte)) 0 0 0 [.ref 903] zD g (.inl (some (.int r)), zD, g) := by
  refine zC_of hl0 rfl (Nat.le_of_ble_eq_true rfl) (fun x hG hxl hk _ => ?_)
  subst hxl
  show zK x 0 0 [(0, .ref 903)] [] zD g 0 0
  unfold nJ0_coder_7d493_903 at h
  refine z_cstr (pc := 0) hG w915 dJ0_coder_7d493_0 ?_
  refine z_if_eq (pc := 3) (tgt := 13) hG dJ0_coder_7d493_3 rfl (fun hc => ?_) (fun hc => ?_)
  · replace h := zif_t hc h
    refine z_iconst (pc := 13) hG kc_1 dJ0_coder_7d493_13 ?_
    obtain rfl := Option.some.inj h
    exact z_iret (pc := 14) hG rfl rfl hk dJ0_coder_7d493_14
  · replace h := zif_f hc h
    refine z_aload_n (pc := 6) hG 0 rfl rfl dJ0_coder_7d493_6 ?_
    refine z_scod (pc := 7) (q := 903) hG rfl w1060 dJ0_coder_7d493_7 ?_
    refine z_goto (pc := 10) (tgt := 14) hG dJ0_coder_7d493_10 rfl ?_
    obtain rfl := Option.some.inj h
    exact z_iret (pc := 14) hG rfl rfl hk dJ0_coder_7d493_14
noncomputable def nJ0_length_8abf5_903 : Option Int32 :=
  (nJ0_coder_7d493_903 ).bind fun v1 => some (((nI (slen.getD (zsj 903) 0)) >>> (v1 &&& 31)))
set_option maxHeartbeats 60000 in
theorem tJ0_length_8abf5_903 {l : Launch} (hl0 : l.flags = flags0) (g : zS) {r : Int32} (h : nJ0_length_8abf5_903  = some r) : zC l yJ0_length_8abf5 cJ0_length_8abf5 1 ((Option.some Jvm.ClassFile.FieldType.int)) 1 0 0 [.ref 903] zD g (.inl (some (.int r)), zD, g) := by
  refine zC_of hl0 rfl (Nat.le_of_ble_eq_true rfl) (fun x hG hxl hk _ => ?_)
  subst hxl
  show zK x 1 0 [(0, .ref 903)] [] zD g 0 0
  unfold nJ0_length_8abf5_903 at h
  refine z_aload_n (pc := 0) hG 0 rfl rfl dJ0_length_8abf5_0 ?_
  refine z_sval (pc := 1) (q := 903) hG rfl w1059 dJ0_length_8abf5_1 ?_
  refine z_slen (pc := 4) (q := 903) hG rfl rfl dJ0_length_8abf5_4 ?_
  refine z_aload_n (pc := 5) hG 0 rfl rfl dJ0_length_8abf5_5 ?_
  replace h := zbind h
  obtain ⟨v1, hv1, h⟩ := h
  refine z_cvSI (pc := 6) (A' := 0) (B' := 0) hG [] [.int (nI (slen.getD (zsj 903) 0))] (rfl : zsq 903 = true) (tJ0_coder_7d493_903 hl0  g hv1) zy_J0_coder_7d493 ⟨w912, w913⟩ w911 dJ0_length_8abf5_6 rfl (Nat.le_of_ble_eq_true rfl) rfl rfl rfl (Nat.le_of_ble_eq_true rfl) rfl ?_
  refine z_ishr (pc := 9) hG dJ0_length_8abf5_9 ?_
  obtain rfl := Option.some.inj h
  exact z_iret (pc := 10) hG rfl rfl hk dJ0_length_8abf5_10
noncomputable def nJ0_isLatin1_aae02_903 : Option Int32 :=
  if (1 : Int32) = 0 then (some ((0 : Int32))) else (if (0 : Int32) = 0 then (some ((1 : Int32))) else (some ((0 : Int32))))
set_option maxHeartbeats 60000 in
theorem tJ0_isLatin1_aae02_903 {l : Launch} (hl0 : l.flags = flags0) (g : zS) {r : Int32} (h : nJ0_isLatin1_aae02_903  = some r) : zC l yJ0_isLatin1_aae02 cJ0_isLatin1_aae02 1 ((Option.some Jvm.ClassFile.FieldType.boolean)) 0 0 0 [.ref 903] zD g (.inl (some (.int r)), zD, g) := by
  refine zC_of hl0 rfl (Nat.le_of_ble_eq_true rfl) (fun x hG hxl hk _ => ?_)
  subst hxl
  show zK x 0 0 [(0, .ref 903)] [] zD g 0 0
  unfold nJ0_isLatin1_aae02_903 at h
  refine z_cstr (pc := 0) hG w915 dJ0_isLatin1_aae02_0 ?_
  refine z_if_eq (pc := 3) (tgt := 17) hG dJ0_isLatin1_aae02_3 rfl (fun hc => ?_) (fun hc => ?_)
  · replace h := zif_t hc h
    refine z_iconst (pc := 17) hG kc_0 dJ0_isLatin1_aae02_17 ?_
    obtain rfl := Option.some.inj h
    exact z_iret (pc := 18) hG rfl rfl hk dJ0_isLatin1_aae02_18
  · replace h := zif_f hc h
    refine z_aload_n (pc := 6) hG 0 rfl rfl dJ0_isLatin1_aae02_6 ?_
    refine z_scod (pc := 7) (q := 903) hG rfl w1060 dJ0_isLatin1_aae02_7 ?_
    refine z_if_ne (pc := 10) (tgt := 17) hG dJ0_isLatin1_aae02_10 rfl (fun hc => ?_) (fun hc => ?_)
    · replace h := zif_f hc h
      refine z_iconst (pc := 17) hG kc_0 dJ0_isLatin1_aae02_17 ?_
      obtain rfl := Option.some.inj h
      exact z_iret (pc := 18) hG rfl rfl hk dJ0_isLatin1_aae02_18
    · replace h := zif_t hc h
      refine z_iconst (pc := 13) hG kc_1 dJ0_isLatin1_aae02_13 ?_
      refine z_goto (pc := 14) (tgt := 18) hG dJ0_isLatin1_aae02_14 rfl ?_
      obtain rfl := Option.some.inj h
      exact z_iret (pc := 18) hG rfl rfl hk dJ0_isLatin1_aae02_18
noncomputable def nJ1_charAt_3b067_923 (a1 : Int32) : Option Int32 :=
  (nJ0_checkIndex_df160 a1 (nI (slen.getD (zsj 903) 0))).bind fun v1 => zchk (zin a1 (slen.getD (zsj 903) 0)) (zchk (znc ((((sbyt.getD (zsj 903) []).getD a1.toNatClampNeg 0) &&& (255 : Int32)).toUInt32 % 65536).toInt32) (some (((((sbyt.getD (zsj 903) []).getD a1.toNatClampNeg 0) &&& (255 : Int32)).toUInt32 % 65536).toInt32)))
set_option maxHeartbeats 60000 in
theorem tJ1_charAt_3b067_923 {l : Launch} (hl0 : l.flags = flags0) (a1 : Int32) (g : zS) {r : Int32} (h : nJ1_charAt_3b067_923 a1 = some r) : zC l yJ1_charAt_3b067 cJ1_charAt_3b067 2 ((Option.some Jvm.ClassFile.FieldType.char)) 2 0 0 [.ref 923, .int a1] zD g (.inl (some (.int r)), zD, g) := by
  refine zC_of hl0 rfl (Nat.le_of_ble_eq_true rfl) (fun x hG hxl hk _ => ?_)
  subst hxl
  show zK x 2 0 [(0, .ref 923), (1, .int a1)] [] zD g 0 0
  unfold nJ1_charAt_3b067_923 at h
  refine z_iload_n (pc := 0) hG 1 rfl rfl dJ1_charAt_3b067_0 ?_
  refine z_aload_n (pc := 1) hG 0 rfl rfl dJ1_charAt_3b067_1 ?_
  refine z_slen (pc := 2) (q := 903) hG rfl rfl dJ1_charAt_3b067_2 ?_
  replace h := zbind h
  obtain ⟨v1, hv1, h⟩ := h
  refine z_csV (pc := 3) (A' := 0) (B' := 0) hG [.int a1, .int (nI (slen.getD (zsj 903) 0))] [] (tJ0_checkIndex_df160 hl0 a1 (nI (slen.getD (zsj 903) 0)) g hv1) zy_J0_checkIndex_df160 w967 w1091 dJ1_charAt_3b067_3 rfl (Nat.le_of_ble_eq_true rfl) rfl rfl rfl (Nat.le_of_ble_eq_true rfl) rfl ?_
  refine z_aload_n (pc := 6) hG 0 rfl rfl dJ1_charAt_3b067_6 ?_
  refine z_iload_n (pc := 7) hG 1 rfl rfl dJ1_charAt_3b067_7 ?_
  replace h := zchk_some h
  obtain ⟨hc, h⟩ := h
  refine z_sbyt (pc := 8) (q := 903) hG rfl rfl (zin_in hc) dJ1_charAt_3b067_8 ?_
  refine z_sipush (pc := 9) hG ks_255 dJ1_charAt_3b067_9 ?_
  refine z_iand (pc := 12) hG dJ1_charAt_3b067_12 ?_
  refine z_i2c (pc := 13) hG dJ1_charAt_3b067_13 ?_
  replace h := zchk_some h
  obtain ⟨hc, h⟩ := h
  obtain rfl := Option.some.inj h
  exact z_iret (pc := 14) hG rfl (znc_n hc) hk dJ1_charAt_3b067_14
noncomputable def nJ0_charAt_5068e_903 (a1 : Int32) : Option Int32 :=
  (nJ0_isLatin1_aae02_903 ).bind fun v1 => if v1 = 0 then (none) else ((nJ1_charAt_3b067_923 a1).bind fun v2 => zchk (znc v2) (some (v2)))
set_option maxHeartbeats 60000 in
theorem tJ0_charAt_5068e_903 {l : Launch} (hl0 : l.flags = flags0) (a1 : Int32) (g : zS) {r : Int32} (h : nJ0_charAt_5068e_903 a1 = some r) : zC l yJ0_charAt_5068e cJ0_charAt_5068e 2 ((Option.some Jvm.ClassFile.FieldType.char)) 3 0 0 [.ref 903, .int a1] zD g (.inl (some (.int r)), zD, g) := by
  refine zC_of hl0 rfl (Nat.le_of_ble_eq_true rfl) (fun x hG hxl hk _ => ?_)
  subst hxl
  show zK x 3 0 [(0, .ref 903), (1, .int a1)] [] zD g 0 0
  unfold nJ0_charAt_5068e_903 at h
  refine z_aload_n (pc := 0) hG 0 rfl rfl dJ0_charAt_5068e_0 ?_
  replace h := zbind h
  obtain ⟨v1, hv1, h⟩ := h
  refine z_cvSI (pc := 1) (A' := 0) (B' := 0) hG [] [] (rfl : zsq 903 = true) (tJ0_isLatin1_aae02_903 hl0  g hv1) zy_J0_isLatin1_aae02 ⟨w1085, w1086⟩ w1084 dJ0_charAt_5068e_1 rfl (Nat.le_of_ble_eq_true rfl) rfl rfl rfl (Nat.le_of_ble_eq_true rfl) rfl ?_
  refine z_if_eq (pc := 4) (tgt := 16) hG dJ0_charAt_5068e_4 rfl (fun hc => ?_) (fun hc => ?_)
  · replace h := zif_t hc h
    cases h
  · replace h := zif_f hc h
    refine z_aload_n (pc := 7) hG 0 rfl rfl dJ0_charAt_5068e_7 ?_
    refine z_sval (pc := 8) (q := 903) hG rfl w1059 dJ0_charAt_5068e_8 ?_
    refine z_iload_n (pc := 11) hG 1 rfl rfl dJ0_charAt_5068e_11 ?_
    replace h := zbind h
    obtain ⟨v2, hv2, h⟩ := h
    refine z_csI (pc := 12) (A' := 0) (B' := 0) hG [.ref 923, .int a1] [] (tJ1_charAt_3b067_923 hl0 a1 g hv2) zy_J1_charAt_3b067 w1089 w1088 dJ0_charAt_5068e_12 rfl (Nat.le_of_ble_eq_true rfl) rfl rfl rfl (Nat.le_of_ble_eq_true rfl) rfl ?_
    replace h := zchk_some h
    obtain ⟨hc, h⟩ := h
    obtain rfl := Option.some.inj h
    exact z_iret (pc := 15) hG rfl (znc_n hc) hk dJ0_charAt_5068e_15
noncomputable def wX7_isWord_903_22 (a2 : Int32) (g : zS) (s : Int32) : Option (Int32 ⊕ Int32) :=
  if a2 ≤ s then (zex (some ((1 : Int32)))) else ((nX9_at ((g.1 19 2) + s) g).bind fun v2 => (nJ0_charAt_5068e_903 s).bind fun v3 => if v2 = v3 then (some (.inl (s + (1 : Int32)))) else (zex (some ((0 : Int32)))))
noncomputable def nX7_isWord_903 (g : zS) : Option Int32 :=
  (nJ0_length_8abf5_903 ).bind fun v1 => if ((g.1 19 3) - (g.1 19 2)) = v1 then (wh (wX7_isWord_903_22 v1 g) (0 : Int32)) else (some ((0 : Int32)))
def qX7_isWord_903_22 (x : zXx) (a2 : Int32) (g : zS) (o : Int32 ⊕ Int32) : Prop := match o with
  | .inl s => zK x 4 22 [(0, .ref 19), (1, .ref 903), (2, .int a2), (3, .int s)] [] zD g 0 0
  | .inr r => ztg x = (.inl (some (.int r)), zD, g)
set_option maxHeartbeats 60000 in
theorem kwX7_isWord_903_22 {x : zXx} (hG : zG x cX7_isWord 4 RX7 ((Option.some Jvm.ClassFile.FieldType.boolean))) (hl0 : (zl0 x).flags = flags0) (a2 : Int32) (g : zS) {o : Int32} (hk : ztg x = (.inl (some (.int o)), zD, g)) : ∀ s : Int32, wh (wX7_isWord_903_22 a2 g) s = some o → zK x 4 22 [(0, .ref 19), (1, .ref 903), (2, .int a2), (3, .int s)] [] zD g 0 0 := by
  refine wh_ind (fun s : Int32 => zK x 4 22 [(0, .ref 19), (1, .ref 903), (2, .int a2), (3, .int s)] [] zD g 0 0) (fun s o h hk2 => ?_)
  replace hk : qX7_isWord_903_22 x a2 g o := by
    cases o with
    | inl s => exact hk2
    | inr r => subst hk2; exact hk
  clear hk2
  unfold wX7_isWord_903_22 at h
  refine z_iload_n (pc := 22) hG 3 rfl rfl dX7_isWord_22 ?_
  refine z_iload_n (pc := 23) hG 2 rfl rfl dX7_isWord_23 ?_
  refine z_icmp_ge (pc := 24) (tgt := 56) hG dX7_isWord_24 rfl (fun hc => ?_) (fun hc => ?_)
  · replace h := zif_t hc h
    replace h := zex_some h
    obtain ⟨o, h, rfl⟩ := h
    refine z_iconst (pc := 56) hG kc_1 dX7_isWord_56 ?_
    obtain rfl := Option.some.inj h
    exact z_iret (pc := 57) hG rfl rfl hk dX7_isWord_57
  · replace h := zif_f hc h
    refine z_aload_n (pc := 27) hG 0 rfl rfl dX7_isWord_27 ?_
    refine z_getr (pc := 28) hG zc_X7 inX7 DL_19 0 rfl (by decide) rfl w598 dX7_isWord_28 ?_
    refine z_aload_n (pc := 31) hG 0 rfl rfl dX7_isWord_31 ?_
    refine z_geti (pc := 32) hG zc_X7 inX7 DL_19 2 rfl (by decide) rfl w600 dX7_isWord_32 ?_
    refine z_iload_n (pc := 35) hG 3 rfl rfl dX7_isWord_35 ?_
    refine z_iadd (pc := 36) hG dX7_isWord_36 ?_
    replace h := zbind h
    obtain ⟨v2, hv2, h⟩ := h
    refine z_cvI (pc := 37) (A' := 0) (B' := 0) hG [.int ((g.1 19 2) + s)] [] zc_X9 DL_1 (tX9_at hl0 ((g.1 19 2) + s) g hv2) zy_X9_at ⟨w1124, w1125⟩ w1123 dX7_isWord_37 rfl (Nat.le_of_ble_eq_true rfl) rfl rfl rfl (Nat.le_of_ble_eq_true rfl) rfl ?_
    refine z_aload_n (pc := 40) hG 1 rfl rfl dX7_isWord_40 ?_
    refine z_iload_n (pc := 41) hG 3 rfl rfl dX7_isWord_41 ?_
    replace h := zbind h
    obtain ⟨v3, hv3, h⟩ := h
    refine z_cvSI (pc := 42) (A' := 0) (B' := 0) hG [.int s] [.int v2] (rfl : zsq 903 = true) (tJ0_charAt_5068e_903 hl0 s g hv3) zy_J0_charAt_5068e ⟨w1081, w1082⟩ w1146 dX7_isWord_42 rfl (Nat.le_of_ble_eq_true rfl) rfl rfl rfl (Nat.le_of_ble_eq_true rfl) rfl ?_
    refine z_icmp_eq (pc := 45) (tgt := 50) hG dX7_isWord_45 rfl (fun hc => ?_) (fun hc => ?_)
    · replace h := zif_t hc h
      refine z_iinc (pc := 50) (ls' := [(3, .int (s + (1 : Int32))), (0, .ref 19), (1, .ref 903), (2, .int a2)]) hG 3 rfl [0, 1, 2, 3] (ki_1 _) (by decide) rfl dX7_isWord_50 ?_
      refine z_goto (pc := 53) (tgt := 22) hG dX7_isWord_53 rfl ?_
      obtain rfl := Option.some.inj h
      refine z_sub (ls' := [(0, .ref 19), (1, .ref 903), (2, .int a2), (3, .int (s + (1 : Int32)))]) [1, 2, 3, 0] rfl ?_
      exact hk
    · replace h := zif_f hc h
      replace h := zex_some h
      obtain ⟨o, h, rfl⟩ := h
      refine z_iconst (pc := 48) hG kc_0 dX7_isWord_48 ?_
      obtain rfl := Option.some.inj h
      exact z_iret (pc := 49) hG rfl rfl hk dX7_isWord_49
set_option maxHeartbeats 60000 in
theorem tX7_isWord_903 {l : Launch} (hl0 : l.flags = flags0) (g : zS) {r : Int32} (h : nX7_isWord_903 g = some r) : zC l yX7_isWord cX7_isWord 4 ((Option.some Jvm.ClassFile.FieldType.boolean)) 4 0 0 [.ref 19, .ref 903] zD g (.inl (some (.int r)), zD, g) := by
  refine zC_of hl0 rfl (Nat.le_of_ble_eq_true rfl) (fun x hG hxl hk _ => ?_)
  subst hxl
  show zK x 4 0 [(0, .ref 19), (1, .ref 903)] [] zD g 0 0
  unfold nX7_isWord_903 at h
  refine z_aload_n (pc := 0) hG 1 rfl rfl dX7_isWord_0 ?_
  replace h := zbind h
  obtain ⟨v1, hv1, h⟩ := h
  refine z_cvSI (pc := 1) (A' := 0) (B' := 0) hG [] [] (rfl : zsq 903 = true) (tJ0_length_8abf5_903 hl0  g hv1) zy_J0_length_8abf5 ⟨w908, w909⟩ w1145 dX7_isWord_1 rfl (Nat.le_of_ble_eq_true rfl) rfl rfl rfl (Nat.le_of_ble_eq_true rfl) rfl ?_
  refine z_istore_n (pc := 4) (ls' := [(2, .int v1), (0, .ref 19), (1, .ref 903)]) hG [0, 1, 2] rfl (by decide) rfl dX7_isWord_4 ?_
  refine z_aload_n (pc := 5) hG 1 rfl rfl dX7_isWord_5 ?_
  refine z_geti (pc := 6) hG zc_X7 inX7 DL_19 3 rfl (by decide) rfl w601 dX7_isWord_6 ?_
  refine z_aload_n (pc := 9) hG 1 rfl rfl dX7_isWord_9 ?_
  refine z_geti (pc := 10) hG zc_X7 inX7 DL_19 2 rfl (by decide) rfl w600 dX7_isWord_10 ?_
  refine z_isub (pc := 13) hG dX7_isWord_13 ?_
  refine z_iload_n (pc := 14) hG 0 rfl rfl dX7_isWord_14 ?_
  refine z_icmp_eq (pc := 15) (tgt := 20) hG dX7_isWord_15 rfl (fun hc => ?_) (fun hc => ?_)
  · replace h := zif_t hc h
    refine z_iconst (pc := 20) hG kc_0 dX7_isWord_20 ?_
    refine z_istore_n (pc := 21) (ls' := [(3, .int (0 : Int32)), (2, .int v1), (0, .ref 19), (1, .ref 903)]) hG [0, 1, 2, 3] rfl (by decide) rfl dX7_isWord_21 ?_
    refine z_sub (ls' := [(0, .ref 19), (1, .ref 903), (2, .int v1), (3, .int (0 : Int32))]) [2, 3, 1, 0] rfl ?_
    exact kwX7_isWord_903_22 hG hl0 v1 g hk (0 : Int32) h
  · replace h := zif_f hc h
    refine z_iconst (pc := 18) hG kc_0 dX7_isWord_18 ?_
    obtain rfl := Option.some.inj h
    exact z_iret (pc := 19) hG rfl rfl hk dX7_isWord_19
noncomputable def jX7_isName_86 (s0 : Int32) (g : zS) : Option Int32 :=
  (nX9_at (g.1 19 2) g).bind fun v2 => (nX7_isLetter v2).bind fun v3 => if v3 = 0 then (some ((0 : Int32))) else (if (6 : Int32) < ((g.1 19 3) - (g.1 19 2)) then (some ((0 : Int32))) else (if s0 = 0 then (some ((1 : Int32))) else (some ((0 : Int32)))))
noncomputable def jX7_isName_81 (g : zS) : Option Int32 :=
  jX7_isName_86 (1 : Int32) g
noncomputable def nX7_isName (g : zS) : Option Int32 :=
  (nX7_isWord_900 g).bind fun v1 => if v1 = 0 then ((nX7_isWord_901 g).bind fun v4 => if v4 = 0 then ((nX7_isWord_902 g).bind fun v5 => if v5 = 0 then ((nX7_isWord_903 g).bind fun v6 => if v6 = 0 then ((nX7_isWord_904 g).bind fun v7 => if v7 = 0 then ((nX7_isWord_905 g).bind fun v8 => if v8 = 0 then ((nX7_isWord_906 g).bind fun v9 => if v9 = 0 then ((nX7_isWord_907 g).bind fun v10 => if v10 = 0 then ((nX7_isWord_908 g).bind fun v11 => if v11 = 0 then (jX7_isName_86 (0 : Int32) g) else (jX7_isName_81 g)) else (jX7_isName_81 g)) else (jX7_isName_81 g)) else (jX7_isName_81 g)) else (jX7_isName_81 g)) else (jX7_isName_81 g)) else (jX7_isName_81 g)) else (jX7_isName_81 g)) else (jX7_isName_81 g)
set_option maxHeartbeats 60000 in
theorem kjX7_isName_86 {x : zXx} (hG : zG x cX7_isName 2 RX7 ((Option.some Jvm.ClassFile.FieldType.boolean))) (hl0 : (zl0 x).flags = flags0) (s0 : Int32) (g : zS) {o : Int32} (h : jX7_isName_86 s0 g = some o) (hk : ztg x = (.inl (some (.int o)), zD, g)) : zK x 5 86 [(0, .ref 19)] [.int s0] zD g 0 0 := by
  unfold jX7_isName_86 at h
  refine z_istore_n (pc := 86) (ls' := [(1, .int s0), (0, .ref 19)]) hG [0, 1] rfl (by decide) rfl dX7_isName_86 ?_
  refine z_aload_n (pc := 87) hG 1 rfl rfl dX7_isName_87 ?_
  refine z_getr (pc := 88) hG zc_X7 inX7 DL_19 0 rfl (by decide) rfl w598 dX7_isName_88 ?_
  refine z_aload_n (pc := 91) hG 1 rfl rfl dX7_isName_91 ?_
  refine z_geti (pc := 92) hG zc_X7 inX7 DL_19 2 rfl (by decide) rfl w600 dX7_isName_92 ?_
  replace h := zbind h
  obtain ⟨v2, hv2, h⟩ := h
  refine z_cvI (pc := 95) (A' := 0) (B' := 0) hG [.int (g.1 19 2)] [] zc_X9 DL_1 (tX9_at hl0 (g.1 19 2) g hv2) zy_X9_at ⟨w1124, w1125⟩ w1123 dX7_isName_95 rfl (Nat.le_of_ble_eq_true rfl) rfl rfl rfl (Nat.le_of_ble_eq_true rfl) rfl ?_
  replace h := zbind h
  obtain ⟨v3, hv3, h⟩ := h
  refine z_csI (pc := 98) (A' := 0) (B' := 0) hG [.int v2] [] (tX7_isLetter hl0 v2 g hv3) zy_X7_isLetter w1131 w1130 dX7_isName_98 rfl (Nat.le_of_ble_eq_true rfl) rfl rfl rfl (Nat.le_of_ble_eq_true rfl) rfl ?_
  refine z_if_eq (pc := 101) (tgt := 126) hG dX7_isName_101 rfl (fun hc => ?_) (fun hc => ?_)
  · replace h := zif_t hc h
    refine z_iconst (pc := 126) hG kc_0 dX7_isName_126 ?_
    obtain rfl := Option.some.inj h
    exact z_iret (pc := 127) hG rfl rfl hk dX7_isName_127
  · replace h := zif_f hc h
    refine z_aload_n (pc := 104) hG 1 rfl rfl dX7_isName_104 ?_
    refine z_geti (pc := 105) hG zc_X7 inX7 DL_19 3 rfl (by decide) rfl w601 dX7_isName_105 ?_
    refine z_aload_n (pc := 108) hG 1 rfl rfl dX7_isName_108 ?_
    refine z_geti (pc := 109) hG zc_X7 inX7 DL_19 2 rfl (by decide) rfl w600 dX7_isName_109 ?_
    refine z_isub (pc := 112) hG dX7_isName_112 ?_
    refine z_bipush (pc := 113) hG kb_6 dX7_isName_113 ?_
    refine z_icmp_gt (pc := 115) (tgt := 126) hG dX7_isName_115 rfl (fun hc => ?_) (fun hc => ?_)
    · replace h := zif_t hc h
      refine z_iconst (pc := 126) hG kc_0 dX7_isName_126 ?_
      obtain rfl := Option.some.inj h
      exact z_iret (pc := 127) hG rfl rfl hk dX7_isName_127
    · replace h := zif_f hc h
      refine z_iload_n (pc := 118) hG 0 rfl rfl dX7_isName_118 ?_
      refine z_if_ne (pc := 119) (tgt := 126) hG dX7_isName_119 rfl (fun hc => ?_) (fun hc => ?_)
      · replace h := zif_f hc h
        refine z_iconst (pc := 126) hG kc_0 dX7_isName_126 ?_
        obtain rfl := Option.some.inj h
        exact z_iret (pc := 127) hG rfl rfl hk dX7_isName_127
      · replace h := zif_t hc h
        refine z_iconst (pc := 122) hG kc_1 dX7_isName_122 ?_
        refine z_goto (pc := 123) (tgt := 127) hG dX7_isName_123 rfl ?_
        obtain rfl := Option.some.inj h
        exact z_iret (pc := 127) hG rfl rfl hk dX7_isName_127
set_option maxHeartbeats 60000 in
theorem kjX7_isName_81 {x : zXx} (hG : zG x cX7_isName 2 RX7 ((Option.some Jvm.ClassFile.FieldType.boolean))) (hl0 : (zl0 x).flags = flags0) (g : zS) {o : Int32} (h : jX7_isName_81 g = some o) (hk : ztg x = (.inl (some (.int o)), zD, g)) : zK x 5 81 [(0, .ref 19)] [] zD g 0 0 := by
  unfold jX7_isName_81 at h
  refine z_iconst (pc := 81) hG kc_1 dX7_isName_81 ?_
  refine z_goto (pc := 82) (tgt := 86) hG dX7_isName_82 rfl ?_
  exact kjX7_isName_86 hG hl0 (1 : Int32) g h hk
set_option maxHeartbeats 60000 in
theorem tX7_isName {l : Launch} (hl0 : l.flags = flags0) (g : zS) {r : Int32} (h : nX7_isName g = some r) : zC l yX7_isName cX7_isName 2 ((Option.some Jvm.ClassFile.FieldType.boolean)) 5 0 0 [.ref 19] zD g (.inl (some (.int r)), zD, g) := by
  refine zC_of hl0 rfl (Nat.le_of_ble_eq_true rfl) (fun x hG hxl hk _ => ?_)
  subst hxl
  show zK x 5 0 [(0, .ref 19)] [] zD g 0 0
  unfold nX7_isName at h
  refine z_aload_n (pc := 0) hG 0 rfl rfl dX7_isName_0 ?_
  refine z_lds (pc := 1) hG (by decide : (RX7, 54, "field", 900) ∈ zrefs) dX7_isName_1 ?_
  replace h := zbind h
  obtain ⟨v1, hv1, h⟩ := h
  refine z_cvI (pc := 3) (A' := 0) (B' := 0) hG [.ref 900] [] zc_X7 DL_19 (tX7_isWord_900 hl0  g hv1) zy_X7_isWord ⟨w1143, wp27⟩ w1141 dX7_isName_3 rfl (Nat.le_of_ble_eq_true rfl) rfl rfl rfl (Nat.le_of_ble_eq_true rfl) rfl ?_
  refine z_if_ne (pc := 6) (tgt := 81) hG dX7_isName_6 rfl (fun hc => ?_) (fun hc => ?_)
  · replace h := zif_f hc h
    exact kjX7_isName_81 hG hl0 g h hk
  · replace h := zif_t hc h
    refine z_aload_n (pc := 9) hG 0 rfl rfl dX7_isName_9 ?_
    refine z_lds (pc := 10) hG (by decide : (RX7, 98, "named", 901) ∈ zrefs) dX7_isName_10 ?_
    replace h := zbind h
    obtain ⟨v4, hv4, h⟩ := h
    refine z_cvI (pc := 12) (A' := 0) (B' := 0) hG [.ref 901] [] zc_X7 DL_19 (tX7_isWord_901 hl0  g hv4) zy_X7_isWord ⟨w1143, wp27⟩ w1141 dX7_isName_12 rfl (Nat.le_of_ble_eq_true rfl) rfl rfl rfl (Nat.le_of_ble_eq_true rfl) rfl ?_
    refine z_if_ne (pc := 15) (tgt := 81) hG dX7_isName_15 rfl (fun hc => ?_) (fun hc => ?_)
    · replace h := zif_f hc h
      exact kjX7_isName_81 hG hl0 g h hk
    · replace h := zif_t hc h
      refine z_aload_n (pc := 18) hG 0 rfl rfl dX7_isName_18 ?_
      refine z_lds (pc := 19) hG (by decide : (RX7, 100, "scaled", 902) ∈ zrefs) dX7_isName_19 ?_
      replace h := zbind h
      obtain ⟨v5, hv5, h⟩ := h
      refine z_cvI (pc := 21) (A' := 0) (B' := 0) hG [.ref 902] [] zc_X7 DL_19 (tX7_isWord_902 hl0  g hv5) zy_X7_isWord ⟨w1143, wp27⟩ w1141 dX7_isName_21 rfl (Nat.le_of_ble_eq_true rfl) rfl rfl rfl (Nat.le_of_ble_eq_true rfl) rfl ?_
      refine z_if_ne (pc := 24) (tgt := 81) hG dX7_isName_24 rfl (fun hc => ?_) (fun hc => ?_)
      · replace h := zif_f hc h
        exact kjX7_isName_81 hG hl0 g h hk
      · replace h := zif_t hc h
        refine z_aload_n (pc := 27) hG 0 rfl rfl dX7_isName_27 ?_
        refine z_lds (pc := 28) hG (by decide : (RX7, 109, "weight", 903) ∈ zrefs) dX7_isName_28 ?_
        replace h := zbind h
        obtain ⟨v6, hv6, h⟩ := h
        refine z_cvI (pc := 30) (A' := 0) (B' := 0) hG [.ref 903] [] zc_X7 DL_19 (tX7_isWord_903 hl0  g hv6) zy_X7_isWord ⟨w1143, wp27⟩ w1141 dX7_isName_30 rfl (Nat.le_of_ble_eq_true rfl) rfl rfl rfl (Nat.le_of_ble_eq_true rfl) rfl ?_
        refine z_if_ne (pc := 33) (tgt := 81) hG dX7_isName_33 rfl (fun hc => ?_) (fun hc => ?_)
        · replace h := zif_f hc h
          exact kjX7_isName_81 hG hl0 g h hk
        · replace h := zif_t hc h
          refine z_aload_n (pc := 36) hG 0 rfl rfl dX7_isName_36 ?_
          refine z_lds (pc := 37) hG (by decide : (RX7, 63, "group", 904) ∈ zrefs) dX7_isName_37 ?_
          replace h := zbind h
          obtain ⟨v7, hv7, h⟩ := h
          refine z_cvI (pc := 39) (A' := 0) (B' := 0) hG [.ref 904] [] zc_X7 DL_19 (tX7_isWord_904 hl0  g hv7) zy_X7_isWord ⟨w1143, wp27⟩ w1141 dX7_isName_39 rfl (Nat.le_of_ble_eq_true rfl) rfl rfl rfl (Nat.le_of_ble_eq_true rfl) rfl ?_
          refine z_if_ne (pc := 42) (tgt := 81) hG dX7_isName_42 rfl (fun hc => ?_) (fun hc => ?_)
          · replace h := zif_f hc h
            exact kjX7_isName_81 hG hl0 g h hk
          · replace h := zif_t hc h
            refine z_aload_n (pc := 45) hG 0 rfl rfl dX7_isName_45 ?_
            refine z_lds (pc := 46) hG (by decide : (RX7, 71, "edit", 905) ∈ zrefs) dX7_isName_46 ?_
            replace h := zbind h
            obtain ⟨v8, hv8, h⟩ := h
            refine z_cvI (pc := 48) (A' := 0) (B' := 0) hG [.ref 905] [] zc_X7 DL_19 (tX7_isWord_905 hl0  g hv8) zy_X7_isWord ⟨w1143, wp27⟩ w1141 dX7_isName_48 rfl (Nat.le_of_ble_eq_true rfl) rfl rfl rfl (Nat.le_of_ble_eq_true rfl) rfl ?_
            refine z_if_ne (pc := 51) (tgt := 81) hG dX7_isName_51 rfl (fun hc => ?_) (fun hc => ?_)
            · replace h := zif_f hc h
              exact kjX7_isName_81 hG hl0 g h hk
            · replace h := zif_t hc h
              refine z_aload_n (pc := 54) hG 0 rfl rfl dX7_isName_54 ?_
              refine z_lds (pc := 55) hG (by decide : (RX7, 139, "and", 906) ∈ zrefs) dX7_isName_55 ?_
              replace h := zbind h
              obtain ⟨v9, hv9, h⟩ := h
              refine z_cvI (pc := 57) (A' := 0) (B' := 0) hG [.ref 906] [] zc_X7 DL_19 (tX7_isWord_906 hl0  g hv9) zy_X7_isWord ⟨w1143, wp27⟩ w1141 dX7_isName_57 rfl (Nat.le_of_ble_eq_true rfl) rfl rfl rfl (Nat.le_of_ble_eq_true rfl) rfl ?_
              refine z_if_ne (pc := 60) (tgt := 81) hG dX7_isName_60 rfl (fun hc => ?_) (fun hc => ?_)
              · replace h := zif_f hc h
                exact kjX7_isName_81 hG hl0 g h hk
              · replace h := zif_t hc h
                refine z_aload_n (pc := 63) hG 0 rfl rfl dX7_isName_63 ?_
                refine z_lds (pc := 64) hG (by decide : (RX7, 134, "in", 907) ∈ zrefs) dX7_isName_64 ?_
                replace h := zbind h
                obtain ⟨v10, hv10, h⟩ := h
                refine z_cvI (pc := 66) (A' := 0) (B' := 0) hG [.ref 907] [] zc_X7 DL_19 (tX7_isWord_907 hl0  g hv10) zy_X7_isWord ⟨w1143, wp27⟩ w1141 dX7_isName_66 rfl (Nat.le_of_ble_eq_true rfl) rfl rfl rfl (Nat.le_of_ble_eq_true rfl) rfl ?_
                refine z_if_ne (pc := 69) (tgt := 81) hG dX7_isName_69 rfl (fun hc => ?_) (fun hc => ?_)
                · replace h := zif_f hc h
                  exact kjX7_isName_81 hG hl0 g h hk
                · replace h := zif_t hc h
                  refine z_aload_n (pc := 72) hG 0 rfl rfl dX7_isName_72 ?_
                  refine z_lds (pc := 73) hG (by decide : (RX7, 79, "row", 908) ∈ zrefs) dX7_isName_73 ?_
                  replace h := zbind h
                  obtain ⟨v11, hv11, h⟩ := h
                  refine z_cvI (pc := 75) (A' := 0) (B' := 0) hG [.ref 908] [] zc_X7 DL_19 (tX7_isWord_908 hl0  g hv11) zy_X7_isWord ⟨w1143, wp27⟩ w1141 dX7_isName_75 rfl (Nat.le_of_ble_eq_true rfl) rfl rfl rfl (Nat.le_of_ble_eq_true rfl) rfl ?_
                  refine z_if_eq (pc := 78) (tgt := 85) hG dX7_isName_78 rfl (fun hc => ?_) (fun hc => ?_)
                  · replace h := zif_t hc h
                    refine z_iconst (pc := 85) hG kc_0 dX7_isName_85 ?_
                    exact kjX7_isName_86 hG hl0 (0 : Int32) g h hk
                  · replace h := zif_f hc h
                    exact kjX7_isName_81 hG hl0 g h hk
noncomputable def wX7_keepName_22 (a1 : Int32) (a2 : Int32) (s : (Int32 × zS)) : Option ((Int32 × zS) ⊕ zS) :=
  if a2 ≤ s.1 then (zex (some (s.2))) else (if (6 : Int32) ≤ s.1 then (zex (some (s.2))) else ((nX9_at ((s.2.1 19 2) + s.1) s.2).bind fun v1 => zchk (zin ((a1 * (6 : Int32)) + s.1) 30) (some (.inl ((s.1 + (1 : Int32)), (zi s.2 15 ((a1 * (6 : Int32)) + s.1).toNatClampNeg (vp_nar .byte v1.toInt8.toInt32)))))))
noncomputable def nX7_keepName (a1 : Int32) (g : zS) : Option zS :=
  zchk (zin a1 5) (wh (wX7_keepName_22 a1 ((g.1 19 3) - (g.1 19 2))) ((0 : Int32), (zi g 16 a1.toNatClampNeg ((g.1 19 3) - (g.1 19 2)))))
def qX7_keepName_22 (x : zXx) (a1 : Int32) (a2 : Int32) (o : (Int32 × zS) ⊕ zS) : Prop := match o with
  | .inl s => zK x 1 22 [(0, .ref 19), (1, .int a1), (2, .int a2), (3, .int s.1)] [] zD s.2 0 0
  | .inr r => ztg x = (.inl none, zD, r)
set_option maxHeartbeats 60000 in
theorem kwX7_keepName_22 {x : zXx} (hG : zG x cX7_keepName 4 RX7 ((Option.none : Option Jvm.ClassFile.FieldType))) (hl0 : (zl0 x).flags = flags0) (a1 : Int32) (a2 : Int32) {o : zS} (hk : ztg x = (.inl none, zD, o)) : ∀ s : (Int32 × zS), wh (wX7_keepName_22 a1 a2) s = some o → zK x 1 22 [(0, .ref 19), (1, .int a1), (2, .int a2), (3, .int s.1)] [] zD s.2 0 0 := by
  refine wh_ind (fun s : (Int32 × zS) => zK x 1 22 [(0, .ref 19), (1, .int a1), (2, .int a2), (3, .int s.1)] [] zD s.2 0 0) (fun s o h hk2 => ?_)
  replace hk : qX7_keepName_22 x a1 a2 o := by
    cases o with
    | inl s => exact hk2
    | inr r => subst hk2; exact hk
  clear hk2
  unfold wX7_keepName_22 at h
  refine z_iload_n (pc := 22) hG 3 rfl rfl dX7_keepName_22 ?_
  refine z_iload_n (pc := 23) hG 2 rfl rfl dX7_keepName_23 ?_
  refine z_icmp_ge (pc := 24) (tgt := 67) hG dX7_keepName_24 rfl (fun hc => ?_) (fun hc => ?_)
  · replace h := zif_t hc h
    replace h := zex_some h
    obtain ⟨o, h, rfl⟩ := h
    obtain rfl := Option.some.inj h
    exact z_vret (pc := 67) hG rfl hk dX7_keepName_67
  · replace h := zif_f hc h
    refine z_iload_n (pc := 27) hG 3 rfl rfl dX7_keepName_27 ?_
    refine z_bipush (pc := 28) hG kb_6 dX7_keepName_28 ?_
    refine z_icmp_ge (pc := 30) (tgt := 67) hG dX7_keepName_30 rfl (fun hc => ?_) (fun hc => ?_)
    · replace h := zif_t hc h
      replace h := zex_some h
      obtain ⟨o, h, rfl⟩ := h
      obtain rfl := Option.some.inj h
      exact z_vret (pc := 67) hG rfl hk dX7_keepName_67
    · replace h := zif_f hc h
      refine z_aload_n (pc := 33) hG 0 rfl rfl dX7_keepName_33 ?_
      refine z_getr (pc := 34) hG zc_X7 inX7 DL_19 1 rfl (by decide) rfl w599 dX7_keepName_34 ?_
      refine z_getr (pc := 37) hG zc_X6 inX6 DL_11 4 rfl (by decide) rfl w550 dX7_keepName_37 ?_
      refine z_iload_n (pc := 40) hG 1 rfl rfl dX7_keepName_40 ?_
      refine z_bipush (pc := 41) hG kb_6 dX7_keepName_41 ?_
      refine z_imul (pc := 43) hG dX7_keepName_43 ?_
      refine z_iload_n (pc := 44) hG 3 rfl rfl dX7_keepName_44 ?_
      refine z_iadd (pc := 45) hG dX7_keepName_45 ?_
      refine z_aload_n (pc := 46) hG 0 rfl rfl dX7_keepName_46 ?_
      refine z_getr (pc := 47) hG zc_X7 inX7 DL_19 0 rfl (by decide) rfl w598 dX7_keepName_47 ?_
      refine z_aload_n (pc := 50) hG 0 rfl rfl dX7_keepName_50 ?_
      refine z_geti (pc := 51) hG zc_X7 inX7 DL_19 2 rfl (by decide) rfl w600 dX7_keepName_51 ?_
      refine z_iload_n (pc := 54) hG 3 rfl rfl dX7_keepName_54 ?_
      refine z_iadd (pc := 55) hG dX7_keepName_55 ?_
      replace h := zbind h
      obtain ⟨v1, hv1, h⟩ := h
      refine z_cvI (pc := 56) (A' := 0) (B' := 0) hG [.int ((s.2.1 19 2) + s.1)] [.int ((a1 * (6 : Int32)) + s.1), .ref 15] zc_X9 DL_1 (tX9_at hl0 ((s.2.1 19 2) + s.1) s.2 hv1) zy_X9_at ⟨w1124, w1125⟩ w1123 dX7_keepName_56 rfl (Nat.le_of_ble_eq_true rfl) rfl rfl rfl (Nat.le_of_ble_eq_true rfl) rfl ?_
      refine z_i2b (pc := 59) hG dX7_keepName_59 ?_
      replace h := zchk_some h
      obtain ⟨hc, h⟩ := h
      refine z_bast (pc := 60) hG DL_15 (zin_in hc) dX7_keepName_60 ?_
      refine z_iinc (pc := 61) (ls' := [(3, .int (s.1 + (1 : Int32))), (0, .ref 19), (1, .int a1), (2, .int a2)]) hG 3 rfl [0, 1, 2, 3] (ki_1 _) (by decide) rfl dX7_keepName_61 ?_
      refine z_goto (pc := 64) (tgt := 22) hG dX7_keepName_64 rfl ?_
      obtain rfl := Option.some.inj h
      refine z_sub (ls' := [(0, .ref 19), (1, .int a1), (2, .int a2), (3, .int (s.1 + (1 : Int32)))]) [1, 2, 3, 0] rfl ?_
      exact hk
set_option maxHeartbeats 60000 in
theorem tX7_keepName {l : Launch} (hl0 : l.flags = flags0) (a1 : Int32) (g : zS) {r : zS} (h : nX7_keepName a1 g = some r) : zC l yX7_keepName cX7_keepName 4 ((Option.none : Option Jvm.ClassFile.FieldType)) 1 0 0 [.ref 19, .int a1] zD g (.inl none, zD, r) := by
  refine zC_of hl0 rfl (Nat.le_of_ble_eq_true rfl) (fun x hG hxl hk _ => ?_)
  subst hxl
  show zK x 1 0 [(0, .ref 19), (1, .int a1)] [] zD g 0 0
  unfold nX7_keepName at h
  refine z_aload_n (pc := 0) hG 0 rfl rfl dX7_keepName_0 ?_
  refine z_geti (pc := 1) hG zc_X7 inX7 DL_19 3 rfl (by decide) rfl w601 dX7_keepName_1 ?_
  refine z_aload_n (pc := 4) hG 0 rfl rfl dX7_keepName_4 ?_
  refine z_geti (pc := 5) hG zc_X7 inX7 DL_19 2 rfl (by decide) rfl w600 dX7_keepName_5 ?_
  refine z_isub (pc := 8) hG dX7_keepName_8 ?_
  refine z_istore_n (pc := 9) (ls' := [(2, .int ((g.1 19 3) - (g.1 19 2))), (0, .ref 19), (1, .int a1)]) hG [0, 1, 2] rfl (by decide) rfl dX7_keepName_9 ?_
  refine z_aload_n (pc := 10) hG 1 rfl rfl dX7_keepName_10 ?_
  refine z_getr (pc := 11) hG zc_X7 inX7 DL_19 1 rfl (by decide) rfl w599 dX7_keepName_11 ?_
  refine z_getr (pc := 14) hG zc_X6 inX6 DL_11 5 rfl (by decide) rfl w552 dX7_keepName_14 ?_
  refine z_iload_n (pc := 17) hG 2 rfl rfl dX7_keepName_17 ?_
  refine z_iload_n (pc := 18) hG 0 rfl rfl dX7_keepName_18 ?_
  replace h := zchk_some h
  obtain ⟨hc, h⟩ := h
  refine z_iast (pc := 19) hG DL_16 (zin_in hc) dX7_keepName_19 ?_
  refine z_iconst (pc := 20) hG kc_0 dX7_keepName_20 ?_
  refine z_istore_n (pc := 21) (ls' := [(3, .int (0 : Int32)), (2, .int ((g.1 19 3) - (g.1 19 2))), (0, .ref 19), (1, .int a1)]) hG [0, 1, 2, 3] rfl (by decide) rfl dX7_keepName_21 ?_
  refine z_sub (ls' := [(0, .ref 19), (1, .int a1), (2, .int ((g.1 19 3) - (g.1 19 2))), (3, .int (0 : Int32))]) [2, 3, 1, 0] rfl ?_
  exact kwX7_keepName_22 hG hl0 a1 ((g.1 19 3) - (g.1 19 2)) hk ((0 : Int32), (zi g 16 a1.toNatClampNeg ((g.1 19 3) - (g.1 19 2)))) h
noncomputable def jX7_readField_122 (a1 : Int32) (a2 : Int32) (a3 : Int32) (g : zS) : Option (Int32 × zS) :=
  zchk (zin a1 5) (zchk (zin a1 5) (if a3 = (-1 : Int32) then (some (((0 : Int32), (zi (zi (zi g 12 a1.toNatClampNeg a2) 13 a1.toNatClampNeg a3) 11 0 (((zi (zi g 12 a1.toNatClampNeg a2) 13 a1.toNatClampNeg a3).1 11 0) + (1 : Int32)))))) else (some (((1 : Int32), (zi (zi (zi g 12 a1.toNatClampNeg a2) 13 a1.toNatClampNeg a3) 11 0 (((zi (zi g 12 a1.toNatClampNeg a2) 13 a1.toNatClampNeg a3).1 11 0) + (1 : Int32))))))))
noncomputable def jX7_readField_80 (a1 : Int32) (s1 : Int32) (s2 : Int32) (g : zS) : Option (Int32 × zS) :=
  zchk (zin s1 5) ((nX7_next (zi g 14 s1.toNatClampNeg s2)).bind fun v8 => (nX7_takeNumber (2 : Int32) (5 : Int32) v8).bind fun v9 => if v9.1 = (-1 : Int32) then (some (((0 : Int32), v9.2))) else ((nX7_isWord_903 v9.2).bind fun v10 => if v10 = 0 then (jX7_readField_122 a1 v9.1 (1 : Int32) v9.2) else ((nX7_next v9.2).bind fun v11 => (nX7_takeNumber (1 : Int32) (9 : Int32) v11).bind fun v12 => jX7_readField_122 a1 v9.1 v12.1 v12.2)))
noncomputable def jX7_readField_58 (a1 : Int32) (g : zS) : Option (Int32 × zS) :=
  (nX7_isWord_902 g).bind fun v7 => if v7 = 0 then (jX7_readField_80 a1 a1 (0 : Int32) g) else (jX7_readField_80 a1 a1 (1 : Int32) g)
noncomputable def nX7_readField (g : zS) : Option (Int32 × zS) :=
  (nX7_next g).bind fun v1 => (nX7_isName v1).bind fun v2 => if v2 = 0 then (some (((0 : Int32), v1))) else ((nX7_toldField v1).bind fun v3 => if v3 = (-1 : Int32) then ((nX7_keepName (g.1 11 0) v1).bind fun v4 => (nX7_next v4).bind fun v5 => (nX7_isWord_901 v5).bind fun v6 => if v6 = 0 then ((nX7_isWord_902 v5).bind fun v13 => if v13 = 0 then (some (((0 : Int32), v5))) else (jX7_readField_58 (g.1 11 0) v5)) else (jX7_readField_58 (g.1 11 0) v5)) else (some (((0 : Int32), v1))))
set_option maxHeartbeats 60000 in
theorem kjX7_readField_122 {x : zXx} (hG : zG x cX7_readField 4 RX7 ((Option.some Jvm.ClassFile.FieldType.boolean))) (hl0 : (zl0 x).flags = flags0) (a1 : Int32) (a2 : Int32) (a3 : Int32) (g : zS) {o : (Int32 × zS)} (h : jX7_readField_122 a1 a2 a3 g = some o) (hk : ztg x = (.inl (some (.int o.1)), zD, o.2)) : zK x 6 122 [(0, .ref 19), (1, .int a1), (2, .int a2), (3, .int a3)] [] zD g 0 0 := by
  unfold jX7_readField_122 at h
  refine z_aload_n (pc := 122) hG 0 rfl rfl dX7_readField_122 ?_
  refine z_getr (pc := 123) hG zc_X7 inX7 DL_19 1 rfl (by decide) rfl w599 dX7_readField_123 ?_
  refine z_getr (pc := 126) hG zc_X6 inX6 DL_11 1 rfl (by decide) rfl w540 dX7_readField_126 ?_
  refine z_iload_n (pc := 129) hG 1 rfl rfl dX7_readField_129 ?_
  refine z_iload_n (pc := 130) hG 2 rfl rfl dX7_readField_130 ?_
  replace h := zchk_some h
  obtain ⟨hc, h⟩ := h
  refine z_iast (pc := 131) hG DL_12 (zin_in hc) dX7_readField_131 ?_
  refine z_aload_n (pc := 132) hG 0 rfl rfl dX7_readField_132 ?_
  refine z_getr (pc := 133) hG zc_X7 inX7 DL_19 1 rfl (by decide) rfl w599 dX7_readField_133 ?_
  refine z_getr (pc := 136) hG zc_X6 inX6 DL_11 2 rfl (by decide) rfl w544 dX7_readField_136 ?_
  refine z_iload_n (pc := 139) hG 1 rfl rfl dX7_readField_139 ?_
  refine z_iload_n (pc := 140) hG 3 rfl rfl dX7_readField_140 ?_
  replace h := zchk_some h
  obtain ⟨hc, h⟩ := h
  refine z_iast (pc := 141) hG DL_13 (zin_in hc) dX7_readField_141 ?_
  refine z_aload_n (pc := 142) hG 0 rfl rfl dX7_readField_142 ?_
  refine z_getr (pc := 143) hG zc_X7 inX7 DL_19 1 rfl (by decide) rfl w599 dX7_readField_143 ?_
  refine z_dup (pc := 146) hG rfl dX7_readField_146 ?_
  refine z_geti (pc := 147) hG zc_X6 inX6 DL_11 0 rfl (by decide) rfl w535 dX7_readField_147 ?_
  refine z_iconst (pc := 150) hG kc_1 dX7_readField_150 ?_
  refine z_iadd (pc := 151) hG dX7_readField_151 ?_
  refine z_puti (pc := 152) hG zc_X6 inX6 tyX6 tyX6_ok nmX6 DL_11 0 rfl (by decide) rfl w535 rfl rfl rfl dX7_readField_152 ?_
  refine z_iload_n (pc := 155) hG 3 rfl rfl dX7_readField_155 ?_
  refine z_iconst (pc := 156) hG kc_m1 dX7_readField_156 ?_
  refine z_icmp_eq (pc := 157) (tgt := 164) hG dX7_readField_157 rfl (fun hc => ?_) (fun hc => ?_)
  · replace h := zif_t hc h
    refine z_iconst (pc := 164) hG kc_0 dX7_readField_164 ?_
    obtain rfl := Option.some.inj h
    exact z_iret (pc := 165) hG rfl rfl hk dX7_readField_165
  · replace h := zif_f hc h
    refine z_iconst (pc := 160) hG kc_1 dX7_readField_160 ?_
    refine z_goto (pc := 161) (tgt := 165) hG dX7_readField_161 rfl ?_
    obtain rfl := Option.some.inj h
    exact z_iret (pc := 165) hG rfl rfl hk dX7_readField_165
set_option maxHeartbeats 60000 in
theorem kjX7_readField_80 {x : zXx} (hG : zG x cX7_readField 4 RX7 ((Option.some Jvm.ClassFile.FieldType.boolean))) (hl0 : (zl0 x).flags = flags0) (a1 : Int32) (s1 : Int32) (s2 : Int32) (g : zS) {o : (Int32 × zS)} (h : jX7_readField_80 a1 s1 s2 g = some o) (hk : ztg x = (.inl (some (.int o.1)), zD, o.2)) : zK x 6 80 [(0, .ref 19), (1, .int a1)] [.int s2, .int s1, .ref 14] zD g 0 0 := by
  unfold jX7_readField_80 at h
  replace h := zchk_some h
  obtain ⟨hc, h⟩ := h
  refine z_iast (pc := 80) hG DL_14 (zin_in hc) dX7_readField_80 ?_
  refine z_aload_n (pc := 81) hG 0 rfl rfl dX7_readField_81 ?_
  replace h := zbind h
  obtain ⟨v8, hv8, h⟩ := h
  refine z_cvV (pc := 82) (A' := 0) (B' := 0) hG [] [] zc_X7 DL_19 (tX7_next hl0  (zi g 14 s1.toNatClampNeg s2) hv8) zy_X7_next ⟨w1121, wp25⟩ w1119 dX7_readField_82 rfl (Nat.le_of_ble_eq_true rfl) rfl rfl rfl (Nat.le_of_ble_eq_true rfl) rfl ?_
  refine z_aload_n (pc := 85) hG 0 rfl rfl dX7_readField_85 ?_
  refine z_iconst (pc := 86) hG kc_2 dX7_readField_86 ?_
  refine z_iconst (pc := 87) hG kc_5 dX7_readField_87 ?_
  replace h := zbind h
  obtain ⟨v9, hv9, h⟩ := h
  refine z_cvI (pc := 88) (A' := 0) (B' := 0) hG [.int (2 : Int32), .int (5 : Int32)] [] zc_X7 DL_19 (tX7_takeNumber hl0 (2 : Int32) (5 : Int32) v8 hv9) zy_X7_takeNumber ⟨w1181, wp33⟩ w1179 dX7_readField_88 rfl (Nat.le_of_ble_eq_true rfl) rfl rfl rfl (Nat.le_of_ble_eq_true rfl) rfl ?_
  refine z_istore_n (pc := 91) (ls' := [(2, .int v9.1), (0, .ref 19), (1, .int a1)]) hG [0, 1, 2] rfl (by decide) rfl dX7_readField_91 ?_
  refine z_iload_n (pc := 92) hG 0 rfl rfl dX7_readField_92 ?_
  refine z_iconst (pc := 93) hG kc_m1 dX7_readField_93 ?_
  refine z_icmp_ne (pc := 94) (tgt := 99) hG dX7_readField_94 rfl (fun hc => ?_) (fun hc => ?_)
  · replace h := zif_f hc h
    refine z_iconst (pc := 99) hG kc_1 dX7_readField_99 ?_
    refine z_istore_n (pc := 100) (ls' := [(3, .int (1 : Int32)), (2, .int v9.1), (0, .ref 19), (1, .int a1)]) hG [0, 1, 2, 3] rfl (by decide) rfl dX7_readField_100 ?_
    refine z_aload_n (pc := 101) hG 2 rfl rfl dX7_readField_101 ?_
    refine z_lds (pc := 102) hG (by decide : (RX7, 109, "weight", 903) ∈ zrefs) dX7_readField_102 ?_
    replace h := zbind h
    obtain ⟨v10, hv10, h⟩ := h
    refine z_cvI (pc := 104) (A' := 0) (B' := 0) hG [.ref 903] [] zc_X7 DL_19 (tX7_isWord_903 hl0  v9.2 hv10) zy_X7_isWord ⟨w1143, wp27⟩ w1141 dX7_readField_104 rfl (Nat.le_of_ble_eq_true rfl) rfl rfl rfl (Nat.le_of_ble_eq_true rfl) rfl ?_
    refine z_if_eq (pc := 107) (tgt := 122) hG dX7_readField_107 rfl (fun hc => ?_) (fun hc => ?_)
    · replace h := zif_t hc h
      refine z_sub (ls' := [(0, .ref 19), (1, .int a1), (2, .int v9.1), (3, .int (1 : Int32))]) [2, 3, 1, 0] rfl ?_
      exact kjX7_readField_122 hG hl0 a1 v9.1 (1 : Int32) v9.2 h hk
    · replace h := zif_f hc h
      refine z_aload_n (pc := 110) hG 2 rfl rfl dX7_readField_110 ?_
      replace h := zbind h
      obtain ⟨v11, hv11, h⟩ := h
      refine z_cvV (pc := 111) (A' := 0) (B' := 0) hG [] [] zc_X7 DL_19 (tX7_next hl0  v9.2 hv11) zy_X7_next ⟨w1121, wp25⟩ w1119 dX7_readField_111 rfl (Nat.le_of_ble_eq_true rfl) rfl rfl rfl (Nat.le_of_ble_eq_true rfl) rfl ?_
      refine z_aload_n (pc := 114) hG 2 rfl rfl dX7_readField_114 ?_
      refine z_iconst (pc := 115) hG kc_1 dX7_readField_115 ?_
      refine z_bipush (pc := 116) hG kb_9 dX7_readField_116 ?_
      replace h := zbind h
      obtain ⟨v12, hv12, h⟩ := h
      refine z_cvI (pc := 118) (A' := 0) (B' := 0) hG [.int (1 : Int32), .int (9 : Int32)] [] zc_X7 DL_19 (tX7_takeNumber hl0 (1 : Int32) (9 : Int32) v11 hv12) zy_X7_takeNumber ⟨w1181, wp33⟩ w1179 dX7_readField_118 rfl (Nat.le_of_ble_eq_true rfl) rfl rfl rfl (Nat.le_of_ble_eq_true rfl) rfl ?_
      refine z_istore_n (pc := 121) (ls' := [(3, .int v12.1), (2, .int v9.1), (0, .ref 19), (1, .int a1)]) hG [0, 1, 2, 3] rfl (by decide) rfl dX7_readField_121 ?_
      refine z_sub (ls' := [(0, .ref 19), (1, .int a1), (2, .int v9.1), (3, .int v12.1)]) [2, 3, 1, 0] rfl ?_
      exact kjX7_readField_122 hG hl0 a1 v9.1 v12.1 v12.2 h hk
  · replace h := zif_t hc h
    refine z_iconst (pc := 97) hG kc_0 dX7_readField_97 ?_
    obtain rfl := Option.some.inj h
    exact z_iret (pc := 98) hG rfl rfl hk dX7_readField_98
set_option maxHeartbeats 60000 in
theorem kjX7_readField_58 {x : zXx} (hG : zG x cX7_readField 4 RX7 ((Option.some Jvm.ClassFile.FieldType.boolean))) (hl0 : (zl0 x).flags = flags0) (a1 : Int32) (g : zS) {o : (Int32 × zS)} (h : jX7_readField_58 a1 g = some o) (hk : ztg x = (.inl (some (.int o.1)), zD, o.2)) : zK x 6 58 [(0, .ref 19), (1, .int a1)] [] zD g 0 0 := by
  unfold jX7_readField_58 at h
  refine z_aload_n (pc := 58) hG 0 rfl rfl dX7_readField_58 ?_
  refine z_getr (pc := 59) hG zc_X7 inX7 DL_19 1 rfl (by decide) rfl w599 dX7_readField_59 ?_
  refine z_getr (pc := 62) hG zc_X6 inX6 DL_11 3 rfl (by decide) rfl w547 dX7_readField_62 ?_
  refine z_iload_n (pc := 65) hG 1 rfl rfl dX7_readField_65 ?_
  refine z_aload_n (pc := 66) hG 0 rfl rfl dX7_readField_66 ?_
  refine z_lds (pc := 67) hG (by decide : (RX7, 100, "scaled", 902) ∈ zrefs) dX7_readField_67 ?_
  replace h := zbind h
  obtain ⟨v7, hv7, h⟩ := h
  refine z_cvI (pc := 69) (A' := 0) (B' := 0) hG [.ref 902] [.int a1, .ref 14] zc_X7 DL_19 (tX7_isWord_902 hl0  g hv7) zy_X7_isWord ⟨w1143, wp27⟩ w1141 dX7_readField_69 rfl (Nat.le_of_ble_eq_true rfl) rfl rfl rfl (Nat.le_of_ble_eq_true rfl) rfl ?_
  refine z_if_eq (pc := 72) (tgt := 79) hG dX7_readField_72 rfl (fun hc => ?_) (fun hc => ?_)
  · replace h := zif_t hc h
    refine z_iconst (pc := 79) hG kc_0 dX7_readField_79 ?_
    exact kjX7_readField_80 hG hl0 a1 a1 (0 : Int32) g h hk
  · replace h := zif_f hc h
    refine z_iconst (pc := 75) hG kc_1 dX7_readField_75 ?_
    refine z_goto (pc := 76) (tgt := 80) hG dX7_readField_76 rfl ?_
    exact kjX7_readField_80 hG hl0 a1 a1 (1 : Int32) g h hk
set_option maxHeartbeats 60000 in
theorem tX7_readField {l : Launch} (hl0 : l.flags = flags0) (g : zS) {r : (Int32 × zS)} (h : nX7_readField g = some r) : zC l yX7_readField cX7_readField 4 ((Option.some Jvm.ClassFile.FieldType.boolean)) 6 0 0 [.ref 19] zD g (.inl (some (.int r.1)), zD, r.2) := by
  refine zC_of hl0 rfl (Nat.le_of_ble_eq_true rfl) (fun x hG hxl hk _ => ?_)
  subst hxl
  show zK x 6 0 [(0, .ref 19)] [] zD g 0 0
  unfold nX7_readField at h
  refine z_aload_n (pc := 0) hG 0 rfl rfl dX7_readField_0 ?_
  refine z_getr (pc := 1) hG zc_X7 inX7 DL_19 1 rfl (by decide) rfl w599 dX7_readField_1 ?_
  refine z_geti (pc := 4) hG zc_X6 inX6 DL_11 0 rfl (by decide) rfl w535 dX7_readField_4 ?_
  refine z_istore_n (pc := 7) (ls' := [(1, .int (g.1 11 0)), (0, .ref 19)]) hG [0, 1] rfl (by decide) rfl dX7_readField_7 ?_
  refine z_aload_n (pc := 8) hG 1 rfl rfl dX7_readField_8 ?_
  replace h := zbind h
  obtain ⟨v1, hv1, h⟩ := h
  refine z_cvV (pc := 9) (A' := 0) (B' := 0) hG [] [] zc_X7 DL_19 (tX7_next hl0  g hv1) zy_X7_next ⟨w1121, wp25⟩ w1119 dX7_readField_9 rfl (Nat.le_of_ble_eq_true rfl) rfl rfl rfl (Nat.le_of_ble_eq_true rfl) rfl ?_
  refine z_aload_n (pc := 12) hG 1 rfl rfl dX7_readField_12 ?_
  replace h := zbind h
  obtain ⟨v2, hv2, h⟩ := h
  refine z_cvI (pc := 13) (A' := 0) (B' := 0) hG [] [] zc_X7 DL_19 (tX7_isName hl0  v1 hv2) zy_X7_isName ⟨w1153, wp29⟩ w1151 dX7_readField_13 rfl (Nat.le_of_ble_eq_true rfl) rfl rfl rfl (Nat.le_of_ble_eq_true rfl) rfl ?_
  refine z_if_eq (pc := 16) (tgt := 27) hG dX7_readField_16 rfl (fun hc => ?_) (fun hc => ?_)
  · replace h := zif_t hc h
    refine z_iconst (pc := 27) hG kc_0 dX7_readField_27 ?_
    obtain rfl := Option.some.inj h
    exact z_iret (pc := 28) hG rfl rfl hk dX7_readField_28
  · replace h := zif_f hc h
    refine z_aload_n (pc := 19) hG 1 rfl rfl dX7_readField_19 ?_
    replace h := zbind h
    obtain ⟨v3, hv3, h⟩ := h
    refine z_cvI (pc := 20) (A' := 0) (B' := 0) hG [] [] zc_X7 DL_19 (tX7_toldField hl0  v1 hv3) zy_X7_toldField ⟨w1165, wp30⟩ w1163 dX7_readField_20 rfl (Nat.le_of_ble_eq_true rfl) rfl rfl rfl (Nat.le_of_ble_eq_true rfl) rfl ?_
    refine z_iconst (pc := 23) hG kc_m1 dX7_readField_23 ?_
    refine z_icmp_eq (pc := 24) (tgt := 29) hG dX7_readField_24 rfl (fun hc => ?_) (fun hc => ?_)
    · replace h := zif_t hc h
      refine z_aload_n (pc := 29) hG 1 rfl rfl dX7_readField_29 ?_
      refine z_iload_n (pc := 30) hG 0 rfl rfl dX7_readField_30 ?_
      replace h := zbind h
      obtain ⟨v4, hv4, h⟩ := h
      refine z_cvV (pc := 31) (A' := 0) (B' := 0) hG [.int (g.1 11 0)] [] zc_X7 DL_19 (tX7_keepName hl0 (g.1 11 0) v1 hv4) zy_X7_keepName ⟨w1177, wp32⟩ w1175 dX7_readField_31 rfl (Nat.le_of_ble_eq_true rfl) rfl rfl rfl (Nat.le_of_ble_eq_true rfl) rfl ?_
      refine z_aload_n (pc := 34) hG 1 rfl rfl dX7_readField_34 ?_
      replace h := zbind h
      obtain ⟨v5, hv5, h⟩ := h
      refine z_cvV (pc := 35) (A' := 0) (B' := 0) hG [] [] zc_X7 DL_19 (tX7_next hl0  v4 hv5) zy_X7_next ⟨w1121, wp25⟩ w1119 dX7_readField_35 rfl (Nat.le_of_ble_eq_true rfl) rfl rfl rfl (Nat.le_of_ble_eq_true rfl) rfl ?_
      refine z_aload_n (pc := 38) hG 1 rfl rfl dX7_readField_38 ?_
      refine z_lds (pc := 39) hG (by decide : (RX7, 98, "named", 901) ∈ zrefs) dX7_readField_39 ?_
      replace h := zbind h
      obtain ⟨v6, hv6, h⟩ := h
      refine z_cvI (pc := 41) (A' := 0) (B' := 0) hG [.ref 901] [] zc_X7 DL_19 (tX7_isWord_901 hl0  v5 hv6) zy_X7_isWord ⟨w1143, wp27⟩ w1141 dX7_readField_41 rfl (Nat.le_of_ble_eq_true rfl) rfl rfl rfl (Nat.le_of_ble_eq_true rfl) rfl ?_
      refine z_if_ne (pc := 44) (tgt := 58) hG dX7_readField_44 rfl (fun hc => ?_) (fun hc => ?_)
      · replace h := zif_f hc h
        refine z_sub (ls' := [(0, .ref 19), (1, .int (g.1 11 0))]) [1, 0] rfl ?_
        exact kjX7_readField_58 hG hl0 (g.1 11 0) v5 h hk
      · replace h := zif_t hc h
        refine z_aload_n (pc := 47) hG 1 rfl rfl dX7_readField_47 ?_
        refine z_lds (pc := 48) hG (by decide : (RX7, 100, "scaled", 902) ∈ zrefs) dX7_readField_48 ?_
        replace h := zbind h
        obtain ⟨v13, hv13, h⟩ := h
        refine z_cvI (pc := 50) (A' := 0) (B' := 0) hG [.ref 902] [] zc_X7 DL_19 (tX7_isWord_902 hl0  v5 hv13) zy_X7_isWord ⟨w1143, wp27⟩ w1141 dX7_readField_50 rfl (Nat.le_of_ble_eq_true rfl) rfl rfl rfl (Nat.le_of_ble_eq_true rfl) rfl ?_
        refine z_if_ne (pc := 53) (tgt := 58) hG dX7_readField_53 rfl (fun hc => ?_) (fun hc => ?_)
        · replace h := zif_f hc h
          refine z_sub (ls' := [(0, .ref 19), (1, .int (g.1 11 0))]) [1, 0] rfl ?_
          exact kjX7_readField_58 hG hl0 (g.1 11 0) v5 h hk
        · replace h := zif_t hc h
          refine z_iconst (pc := 56) hG kc_0 dX7_readField_56 ?_
          obtain rfl := Option.some.inj h
          exact z_iret (pc := 57) hG rfl rfl hk dX7_readField_57
    · replace h := zif_f hc h
      refine z_iconst (pc := 27) hG kc_0 dX7_readField_27 ?_
      obtain rfl := Option.some.inj h
      exact z_iret (pc := 28) hG rfl rfl hk dX7_readField_28
noncomputable def nX7_readLine (g : zS) : Option (Int32 × zS) :=
  (nX7_isWord_900 g).bind fun v1 => if v1 = 0 then (if (g.1 11 0) = 0 then (some (((0 : Int32), g))) else ((nX7_isWord_904 (zi g 19 4 (1 : Int32))).bind fun v2 => if v2 = 0 then ((nX7_isWord_905 (zi g 19 4 (1 : Int32))).bind fun v3 => if v3 = 0 then ((nX7_isWord_908 (zi g 19 4 (1 : Int32))).bind fun v4 => if v4 = 0 then (some (((0 : Int32), (zi g 19 4 (1 : Int32))))) else (if (40 : Int32) ≤ ((zi g 19 4 (1 : Int32)).1 11 9) then (some (((0 : Int32), (zi g 19 4 (1 : Int32))))) else ((nX7_readRow (zi g 19 4 (1 : Int32))).bind fun v5 => if v5.1 = 0 then (some (((0 : Int32), v5.2))) else (some (((1 : Int32), v5.2)))))) else (if (6 : Int32) ≤ ((zi g 19 4 (1 : Int32)).1 11 7) then (some (((0 : Int32), (zi g 19 4 (1 : Int32))))) else ((nX7_readEdit (zi g 19 4 (1 : Int32))).bind fun v6 => if v6.1 = 0 then (some (((0 : Int32), v6.2))) else (some (((1 : Int32), v6.2)))))) else (if ((zi g 19 4 (1 : Int32)).1 11 6) = (-1 : Int32) then ((nX7_readGroup (zi g 19 4 (1 : Int32))).bind fun v7 => if v7.1 = 0 then (some (((0 : Int32), v7.2))) else (some (((1 : Int32), v7.2)))) else (some (((0 : Int32), (zi g 19 4 (1 : Int32)))))))) else (if (g.1 19 4) = 0 then (if (5 : Int32) ≤ (g.1 11 0) then (some (((0 : Int32), g))) else ((nX7_readField g).bind fun v8 => if v8.1 = 0 then (some (((0 : Int32), v8.2))) else (some (((1 : Int32), v8.2))))) else (some (((0 : Int32), g))))
set_option maxHeartbeats 60000 in
theorem tX7_readLine {l : Launch} (hl0 : l.flags = flags0) (g : zS) {r : (Int32 × zS)} (h : nX7_readLine g = some r) : zC l yX7_readLine cX7_readLine 1 ((Option.some Jvm.ClassFile.FieldType.boolean)) 7 0 0 [.ref 19] zD g (.inl (some (.int r.1)), zD, r.2) := by
  refine zC_of hl0 rfl (Nat.le_of_ble_eq_true rfl) (fun x hG hxl hk _ => ?_)
  subst hxl
  show zK x 7 0 [(0, .ref 19)] [] zD g 0 0
  unfold nX7_readLine at h
  refine z_aload_n (pc := 0) hG 0 rfl rfl dX7_readLine_0 ?_
  refine z_lds (pc := 1) hG (by decide : (RX7, 54, "field", 900) ∈ zrefs) dX7_readLine_1 ?_
  replace h := zbind h
  obtain ⟨v1, hv1, h⟩ := h
  refine z_cvI (pc := 3) (A' := 0) (B' := 0) hG [.ref 900] [] zc_X7 DL_19 (tX7_isWord_900 hl0  g hv1) zy_X7_isWord ⟨w1143, wp27⟩ w1141 dX7_readLine_3 rfl (Nat.le_of_ble_eq_true rfl) rfl rfl rfl (Nat.le_of_ble_eq_true rfl) rfl ?_
  refine z_if_eq (pc := 6) (tgt := 40) hG dX7_readLine_6 rfl (fun hc => ?_) (fun hc => ?_)
  · replace h := zif_t hc h
    refine z_aload_n (pc := 40) hG 0 rfl rfl dX7_readLine_40 ?_
    refine z_getr (pc := 41) hG zc_X7 inX7 DL_19 1 rfl (by decide) rfl w599 dX7_readLine_41 ?_
    refine z_geti (pc := 44) hG zc_X6 inX6 DL_11 0 rfl (by decide) rfl w535 dX7_readLine_44 ?_
    refine z_if_ne (pc := 47) (tgt := 52) hG dX7_readLine_47 rfl (fun hc => ?_) (fun hc => ?_)
    · replace h := zif_f hc h
      refine z_aload_n (pc := 52) hG 0 rfl rfl dX7_readLine_52 ?_
      refine z_iconst (pc := 53) hG kc_1 dX7_readLine_53 ?_
      refine z_puti (pc := 54) hG zc_X7 inX7 tyX7 tyX7_ok nmX7 DL_19 4 rfl (by decide) rfl w602 rfl rfl rfl dX7_readLine_54 ?_
      refine z_aload_n (pc := 57) hG 0 rfl rfl dX7_readLine_57 ?_
      refine z_lds (pc := 58) hG (by decide : (RX7, 63, "group", 904) ∈ zrefs) dX7_readLine_58 ?_
      replace h := zbind h
      obtain ⟨v2, hv2, h⟩ := h
      refine z_cvI (pc := 60) (A' := 0) (B' := 0) hG [.ref 904] [] zc_X7 DL_19 (tX7_isWord_904 hl0  (zi g 19 4 (1 : Int32)) hv2) zy_X7_isWord ⟨w1143, wp27⟩ w1141 dX7_readLine_60 rfl (Nat.le_of_ble_eq_true rfl) rfl rfl rfl (Nat.le_of_ble_eq_true rfl) rfl ?_
      refine z_if_eq (pc := 63) (tgt := 90) hG dX7_readLine_63 rfl (fun hc => ?_) (fun hc => ?_)
      · replace h := zif_t hc h
        refine z_aload_n (pc := 90) hG 0 rfl rfl dX7_readLine_90 ?_
        refine z_lds (pc := 91) hG (by decide : (RX7, 71, "edit", 905) ∈ zrefs) dX7_readLine_91 ?_
        replace h := zbind h
        obtain ⟨v3, hv3, h⟩ := h
        refine z_cvI (pc := 93) (A' := 0) (B' := 0) hG [.ref 905] [] zc_X7 DL_19 (tX7_isWord_905 hl0  (zi g 19 4 (1 : Int32)) hv3) zy_X7_isWord ⟨w1143, wp27⟩ w1141 dX7_readLine_93 rfl (Nat.le_of_ble_eq_true rfl) rfl rfl rfl (Nat.le_of_ble_eq_true rfl) rfl ?_
        refine z_if_eq (pc := 96) (tgt := 124) hG dX7_readLine_96 rfl (fun hc => ?_) (fun hc => ?_)
        · replace h := zif_t hc h
          refine z_aload_n (pc := 124) hG 0 rfl rfl dX7_readLine_124 ?_
          refine z_lds (pc := 125) hG (by decide : (RX7, 79, "row", 908) ∈ zrefs) dX7_readLine_125 ?_
          replace h := zbind h
          obtain ⟨v4, hv4, h⟩ := h
          refine z_cvI (pc := 127) (A' := 0) (B' := 0) hG [.ref 908] [] zc_X7 DL_19 (tX7_isWord_908 hl0  (zi g 19 4 (1 : Int32)) hv4) zy_X7_isWord ⟨w1143, wp27⟩ w1141 dX7_readLine_127 rfl (Nat.le_of_ble_eq_true rfl) rfl rfl rfl (Nat.le_of_ble_eq_true rfl) rfl ?_
          refine z_if_eq (pc := 130) (tgt := 156) hG dX7_readLine_130 rfl (fun hc => ?_) (fun hc => ?_)
          · replace h := zif_t hc h
            refine z_iconst (pc := 156) hG kc_0 dX7_readLine_156 ?_
            obtain rfl := Option.some.inj h
            exact z_iret (pc := 157) hG rfl rfl hk dX7_readLine_157
          · replace h := zif_f hc h
            refine z_aload_n (pc := 133) hG 0 rfl rfl dX7_readLine_133 ?_
            refine z_getr (pc := 134) hG zc_X7 inX7 DL_19 1 rfl (by decide) rfl w599 dX7_readLine_134 ?_
            refine z_geti (pc := 137) hG zc_X6 inX6 DL_11 9 rfl (by decide) rfl w565 dX7_readLine_137 ?_
            refine z_bipush (pc := 140) hG kb_40 dX7_readLine_140 ?_
            refine z_icmp_ge (pc := 142) (tgt := 156) hG dX7_readLine_142 rfl (fun hc => ?_) (fun hc => ?_)
            · replace h := zif_t hc h
              refine z_iconst (pc := 156) hG kc_0 dX7_readLine_156 ?_
              obtain rfl := Option.some.inj h
              exact z_iret (pc := 157) hG rfl rfl hk dX7_readLine_157
            · replace h := zif_f hc h
              refine z_aload_n (pc := 145) hG 0 rfl rfl dX7_readLine_145 ?_
              replace h := zbind h
              obtain ⟨v5, hv5, h⟩ := h
              refine z_cvI (pc := 146) (A' := 0) (B' := 0) hG [] [] zc_X7 DL_19 (tX7_readRow hl0  (zi g 19 4 (1 : Int32)) hv5) zy_X7_readRow ⟨w1206, wp39⟩ w1204 dX7_readLine_146 rfl (Nat.le_of_ble_eq_true rfl) rfl rfl rfl (Nat.le_of_ble_eq_true rfl) rfl ?_
              refine z_if_eq (pc := 149) (tgt := 156) hG dX7_readLine_149 rfl (fun hc => ?_) (fun hc => ?_)
              · replace h := zif_t hc h
                refine z_iconst (pc := 156) hG kc_0 dX7_readLine_156 ?_
                obtain rfl := Option.some.inj h
                exact z_iret (pc := 157) hG rfl rfl hk dX7_readLine_157
              · replace h := zif_f hc h
                refine z_iconst (pc := 152) hG kc_1 dX7_readLine_152 ?_
                refine z_goto (pc := 153) (tgt := 157) hG dX7_readLine_153 rfl ?_
                obtain rfl := Option.some.inj h
                exact z_iret (pc := 157) hG rfl rfl hk dX7_readLine_157
        · replace h := zif_f hc h
          refine z_aload_n (pc := 99) hG 0 rfl rfl dX7_readLine_99 ?_
          refine z_getr (pc := 100) hG zc_X7 inX7 DL_19 1 rfl (by decide) rfl w599 dX7_readLine_100 ?_
          refine z_geti (pc := 103) hG zc_X6 inX6 DL_11 7 rfl (by decide) rfl w558 dX7_readLine_103 ?_
          refine z_bipush (pc := 106) hG kb_6 dX7_readLine_106 ?_
          refine z_icmp_ge (pc := 108) (tgt := 122) hG dX7_readLine_108 rfl (fun hc => ?_) (fun hc => ?_)
          · replace h := zif_t hc h
            refine z_iconst (pc := 122) hG kc_0 dX7_readLine_122 ?_
            obtain rfl := Option.some.inj h
            exact z_iret (pc := 123) hG rfl rfl hk dX7_readLine_123
          · replace h := zif_f hc h
            refine z_aload_n (pc := 111) hG 0 rfl rfl dX7_readLine_111 ?_
            replace h := zbind h
            obtain ⟨v6, hv6, h⟩ := h
            refine z_cvI (pc := 112) (A' := 0) (B' := 0) hG [] [] zc_X7 DL_19 (tX7_readEdit hl0  (zi g 19 4 (1 : Int32)) hv6) zy_X7_readEdit ⟨w1189, wp35⟩ w1187 dX7_readLine_112 rfl (Nat.le_of_ble_eq_true rfl) rfl rfl rfl (Nat.le_of_ble_eq_true rfl) rfl ?_
            refine z_if_eq (pc := 115) (tgt := 122) hG dX7_readLine_115 rfl (fun hc => ?_) (fun hc => ?_)
            · replace h := zif_t hc h
              refine z_iconst (pc := 122) hG kc_0 dX7_readLine_122 ?_
              obtain rfl := Option.some.inj h
              exact z_iret (pc := 123) hG rfl rfl hk dX7_readLine_123
            · replace h := zif_f hc h
              refine z_iconst (pc := 118) hG kc_1 dX7_readLine_118 ?_
              refine z_goto (pc := 119) (tgt := 123) hG dX7_readLine_119 rfl ?_
              obtain rfl := Option.some.inj h
              exact z_iret (pc := 123) hG rfl rfl hk dX7_readLine_123
      · replace h := zif_f hc h
        refine z_aload_n (pc := 66) hG 0 rfl rfl dX7_readLine_66 ?_
        refine z_getr (pc := 67) hG zc_X7 inX7 DL_19 1 rfl (by decide) rfl w599 dX7_readLine_67 ?_
        refine z_geti (pc := 70) hG zc_X6 inX6 DL_11 6 rfl (by decide) rfl w554 dX7_readLine_70 ?_
        refine z_iconst (pc := 73) hG kc_m1 dX7_readLine_73 ?_
        refine z_icmp_ne (pc := 74) (tgt := 88) hG dX7_readLine_74 rfl (fun hc => ?_) (fun hc => ?_)
        · replace h := zif_f hc h
          refine z_iconst (pc := 88) hG kc_0 dX7_readLine_88 ?_
          obtain rfl := Option.some.inj h
          exact z_iret (pc := 89) hG rfl rfl hk dX7_readLine_89
        · replace h := zif_t hc h
          refine z_aload_n (pc := 77) hG 0 rfl rfl dX7_readLine_77 ?_
          replace h := zbind h
          obtain ⟨v7, hv7, h⟩ := h
          refine z_cvI (pc := 78) (A' := 0) (B' := 0) hG [] [] zc_X7 DL_19 (tX7_readGroup hl0  (zi g 19 4 (1 : Int32)) hv7) zy_X7_readGroup ⟨w1185, wp34⟩ w1183 dX7_readLine_78 rfl (Nat.le_of_ble_eq_true rfl) rfl rfl rfl (Nat.le_of_ble_eq_true rfl) rfl ?_
          refine z_if_eq (pc := 81) (tgt := 88) hG dX7_readLine_81 rfl (fun hc => ?_) (fun hc => ?_)
          · replace h := zif_t hc h
            refine z_iconst (pc := 88) hG kc_0 dX7_readLine_88 ?_
            obtain rfl := Option.some.inj h
            exact z_iret (pc := 89) hG rfl rfl hk dX7_readLine_89
          · replace h := zif_f hc h
            refine z_iconst (pc := 84) hG kc_1 dX7_readLine_84 ?_
            refine z_goto (pc := 85) (tgt := 89) hG dX7_readLine_85 rfl ?_
            obtain rfl := Option.some.inj h
            exact z_iret (pc := 89) hG rfl rfl hk dX7_readLine_89
    · replace h := zif_t hc h
      refine z_iconst (pc := 50) hG kc_0 dX7_readLine_50 ?_
      obtain rfl := Option.some.inj h
      exact z_iret (pc := 51) hG rfl rfl hk dX7_readLine_51
  · replace h := zif_f hc h
    refine z_aload_n (pc := 9) hG 0 rfl rfl dX7_readLine_9 ?_
    refine z_geti (pc := 10) hG zc_X7 inX7 DL_19 4 rfl (by decide) rfl w602 dX7_readLine_10 ?_
    refine z_if_ne (pc := 13) (tgt := 38) hG dX7_readLine_13 rfl (fun hc => ?_) (fun hc => ?_)
    · replace h := zif_f hc h
      refine z_iconst (pc := 38) hG kc_0 dX7_readLine_38 ?_
      obtain rfl := Option.some.inj h
      exact z_iret (pc := 39) hG rfl rfl hk dX7_readLine_39
    · replace h := zif_t hc h
      refine z_aload_n (pc := 16) hG 0 rfl rfl dX7_readLine_16 ?_
      refine z_getr (pc := 17) hG zc_X7 inX7 DL_19 1 rfl (by decide) rfl w599 dX7_readLine_17 ?_
      refine z_geti (pc := 20) hG zc_X6 inX6 DL_11 0 rfl (by decide) rfl w535 dX7_readLine_20 ?_
      refine z_iconst (pc := 23) hG kc_5 dX7_readLine_23 ?_
      refine z_icmp_ge (pc := 24) (tgt := 38) hG dX7_readLine_24 rfl (fun hc => ?_) (fun hc => ?_)
      · replace h := zif_t hc h
        refine z_iconst (pc := 38) hG kc_0 dX7_readLine_38 ?_
        obtain rfl := Option.some.inj h
        exact z_iret (pc := 39) hG rfl rfl hk dX7_readLine_39
      · replace h := zif_f hc h
        refine z_aload_n (pc := 27) hG 0 rfl rfl dX7_readLine_27 ?_
        replace h := zbind h
        obtain ⟨v8, hv8, h⟩ := h
        refine z_cvI (pc := 28) (A' := 0) (B' := 0) hG [] [] zc_X7 DL_19 (tX7_readField hl0  g hv8) zy_X7_readField ⟨w1149, wp28⟩ w1147 dX7_readLine_28 rfl (Nat.le_of_ble_eq_true rfl) rfl rfl rfl (Nat.le_of_ble_eq_true rfl) rfl ?_
        refine z_if_eq (pc := 31) (tgt := 38) hG dX7_readLine_31 rfl (fun hc => ?_) (fun hc => ?_)
        · replace h := zif_t hc h
          refine z_iconst (pc := 38) hG kc_0 dX7_readLine_38 ?_
          obtain rfl := Option.some.inj h
          exact z_iret (pc := 39) hG rfl rfl hk dX7_readLine_39
        · replace h := zif_f hc h
          refine z_iconst (pc := 34) hG kc_1 dX7_readLine_34 ?_
          refine z_goto (pc := 35) (tgt := 39) hG dX7_readLine_35 rfl ?_
          obtain rfl := Option.some.inj h
          exact z_iret (pc := 39) hG rfl rfl hk dX7_readLine_39
noncomputable def jX7_readText_68 (g : zS) : Option (Int32 × zS) :=
  if (g.1 11 0) ≤ 0 then (some (((0 : Int32), g))) else (some (((1 : Int32), g)))
noncomputable def wX7_readText_23  (s : (Int32 × zS)) : Option ((Int32 × zS) ⊕ (Int32 × zS)) :=
  if (400 : Int32) ≤ s.1 then (zex (jX7_readText_68 s.2)) else (if (s.2.1 1 1) ≤ (s.2.1 19 2) then (zex (jX7_readText_68 s.2)) else ((nX7_readLine s.2).bind fun v3 => if v3.1 = 0 then (zex (some (((0 : Int32), v3.2)))) else ((nX7_takes (59 : Int32) v3.2).bind fun v4 => if v4.1 = 0 then (zex (some (((0 : Int32), v4.2)))) else (some (.inl ((s.1 + (1 : Int32)), v4.2))))))
noncomputable def nX7_readText (g : zS) : Option (Int32 × zS) :=
  (nX6_clear_d g).bind fun v1 => (nX7_next (zi (zi v1 19 4 (0 : Int32)) 19 3 (0 : Int32))).bind fun v2 => wh (wX7_readText_23 ) ((0 : Int32), v2)
def qX7_readText_23 (x : zXx)  (o : (Int32 × zS) ⊕ (Int32 × zS)) : Prop := match o with
  | .inl s => zK x 8 23 [(0, .ref 19), (1, .int s.1)] [] zD s.2 0 0
  | .inr r => ztg x = (.inl (some (.int r.1)), zD, r.2)
set_option maxHeartbeats 60000 in
theorem kjX7_readText_68 {x : zXx} (hG : zG x cX7_readText 2 RX7 ((Option.some Jvm.ClassFile.FieldType.boolean))) (hl0 : (zl0 x).flags = flags0) (g : zS) {o : (Int32 × zS)} (h : jX7_readText_68 g = some o) (hk : ztg x = (.inl (some (.int o.1)), zD, o.2)) : zK x 8 68 [(0, .ref 19)] [] zD g 0 0 := by
  unfold jX7_readText_68 at h
  refine z_aload_n (pc := 68) hG 0 rfl rfl dX7_readText_68 ?_
  refine z_getr (pc := 69) hG zc_X7 inX7 DL_19 1 rfl (by decide) rfl w599 dX7_readText_69 ?_
  refine z_geti (pc := 72) hG zc_X6 inX6 DL_11 0 rfl (by decide) rfl w535 dX7_readText_72 ?_
  refine z_if_le (pc := 75) (tgt := 82) hG dX7_readText_75 rfl (fun hc => ?_) (fun hc => ?_)
  · replace h := zif_t hc h
    refine z_iconst (pc := 82) hG kc_0 dX7_readText_82 ?_
    obtain rfl := Option.some.inj h
    exact z_iret (pc := 83) hG rfl rfl hk dX7_readText_83
  · replace h := zif_f hc h
    refine z_iconst (pc := 78) hG kc_1 dX7_readText_78 ?_
    refine z_goto (pc := 79) (tgt := 83) hG dX7_readText_79 rfl ?_
    obtain rfl := Option.some.inj h
    exact z_iret (pc := 83) hG rfl rfl hk dX7_readText_83
set_option maxHeartbeats 60000 in
theorem kwX7_readText_23 {x : zXx} (hG : zG x cX7_readText 2 RX7 ((Option.some Jvm.ClassFile.FieldType.boolean))) (hl0 : (zl0 x).flags = flags0)  {o : (Int32 × zS)} (hk : ztg x = (.inl (some (.int o.1)), zD, o.2)) : ∀ s : (Int32 × zS), wh (wX7_readText_23 ) s = some o → zK x 8 23 [(0, .ref 19), (1, .int s.1)] [] zD s.2 0 0 := by
  refine wh_ind (fun s : (Int32 × zS) => zK x 8 23 [(0, .ref 19), (1, .int s.1)] [] zD s.2 0 0) (fun s o h hk2 => ?_)
  replace hk : qX7_readText_23 x  o := by
    cases o with
    | inl s => exact hk2
    | inr r => subst hk2; exact hk
  clear hk2
  unfold wX7_readText_23 at h
  refine z_iload_n (pc := 23) hG 1 rfl rfl dX7_readText_23 ?_
  refine z_sipush (pc := 24) hG ks_400 dX7_readText_24 ?_
  refine z_icmp_ge (pc := 27) (tgt := 68) hG dX7_readText_27 rfl (fun hc => ?_) (fun hc => ?_)
  · replace h := zif_t hc h
    replace h := zex_some h
    obtain ⟨o, h, rfl⟩ := h
    refine z_sub (ls' := [(0, .ref 19)]) [0] rfl ?_
    exact kjX7_readText_68 hG hl0 s.2 h hk
  · replace h := zif_f hc h
    refine z_aload_n (pc := 30) hG 0 rfl rfl dX7_readText_30 ?_
    refine z_geti (pc := 31) hG zc_X7 inX7 DL_19 2 rfl (by decide) rfl w600 dX7_readText_31 ?_
    refine z_aload_n (pc := 34) hG 0 rfl rfl dX7_readText_34 ?_
    refine z_getr (pc := 35) hG zc_X7 inX7 DL_19 0 rfl (by decide) rfl w598 dX7_readText_35 ?_
    refine z_geti (pc := 38) hG zc_X9 inX9 DL_1 1 rfl (by decide) rfl w520 dX7_readText_38 ?_
    refine z_icmp_ge (pc := 41) (tgt := 68) hG dX7_readText_41 rfl (fun hc => ?_) (fun hc => ?_)
    · replace h := zif_t hc h
      replace h := zex_some h
      obtain ⟨o, h, rfl⟩ := h
      refine z_sub (ls' := [(0, .ref 19)]) [0] rfl ?_
      exact kjX7_readText_68 hG hl0 s.2 h hk
    · replace h := zif_f hc h
      refine z_aload_n (pc := 44) hG 0 rfl rfl dX7_readText_44 ?_
      replace h := zbind h
      obtain ⟨v3, hv3, h⟩ := h
      refine z_cvI (pc := 45) (A' := 0) (B' := 0) hG [] [] zc_X7 DL_19 (tX7_readLine hl0  s.2 hv3) zy_X7_readLine ⟨w1138, wp26⟩ w1136 dX7_readText_45 rfl (Nat.le_of_ble_eq_true rfl) rfl rfl rfl (Nat.le_of_ble_eq_true rfl) rfl ?_
      refine z_if_eq (pc := 48) (tgt := 60) hG dX7_readText_48 rfl (fun hc => ?_) (fun hc => ?_)
      · replace h := zif_t hc h
        replace h := zex_some h
        obtain ⟨o, h, rfl⟩ := h
        refine z_iconst (pc := 60) hG kc_0 dX7_readText_60 ?_
        obtain rfl := Option.some.inj h
        exact z_iret (pc := 61) hG rfl rfl hk dX7_readText_61
      · replace h := zif_f hc h
        refine z_aload_n (pc := 51) hG 0 rfl rfl dX7_readText_51 ?_
        refine z_bipush (pc := 52) hG kb_59 dX7_readText_52 ?_
        replace h := zbind h
        obtain ⟨v4, hv4, h⟩ := h
        refine z_cvI (pc := 54) (A' := 0) (B' := 0) hG [.int (59 : Int32)] [] zc_X7 DL_19 (tX7_takes hl0 (59 : Int32) v3.2 hv4) zy_X7_takes ⟨w1198, wp37⟩ w1196 dX7_readText_54 rfl (Nat.le_of_ble_eq_true rfl) rfl rfl rfl (Nat.le_of_ble_eq_true rfl) rfl ?_
        refine z_if_ne (pc := 57) (tgt := 62) hG dX7_readText_57 rfl (fun hc => ?_) (fun hc => ?_)
        · replace h := zif_f hc h
          refine z_iinc (pc := 62) (ls' := [(1, .int (s.1 + (1 : Int32))), (0, .ref 19)]) hG 1 rfl [0, 1] (ki_1 _) (by decide) rfl dX7_readText_62 ?_
          refine z_goto (pc := 65) (tgt := 23) hG dX7_readText_65 rfl ?_
          obtain rfl := Option.some.inj h
          refine z_sub (ls' := [(0, .ref 19), (1, .int (s.1 + (1 : Int32)))]) [1, 0] rfl ?_
          exact hk
        · replace h := zif_t hc h
          replace h := zex_some h
          obtain ⟨o, h, rfl⟩ := h
          refine z_iconst (pc := 60) hG kc_0 dX7_readText_60 ?_
          obtain rfl := Option.some.inj h
          exact z_iret (pc := 61) hG rfl rfl hk dX7_readText_61
set_option maxHeartbeats 60000 in
theorem tX7_readText {l : Launch} (hl0 : l.flags = flags0) (g : zS) {r : (Int32 × zS)} (h : nX7_readText g = some r) : zC l yX7_readText cX7_readText 2 ((Option.some Jvm.ClassFile.FieldType.boolean)) 8 0 0 [.ref 19] zD g (.inl (some (.int r.1)), zD, r.2) := by
  refine zC_of hl0 rfl (Nat.le_of_ble_eq_true rfl) (fun x hG hxl hk _ => ?_)
  subst hxl
  show zK x 8 0 [(0, .ref 19)] [] zD g 0 0
  unfold nX7_readText at h
  refine z_aload_n (pc := 0) hG 0 rfl rfl dX7_readText_0 ?_
  refine z_getr (pc := 1) hG zc_X7 inX7 DL_19 1 rfl (by decide) rfl w599 dX7_readText_1 ?_
  replace h := zbind h
  obtain ⟨v1, hv1, h⟩ := h
  refine z_cvV (pc := 4) (A' := 0) (B' := 0) hG [] [] zc_X6 DL_11 (tX6_clear_d hl0  g hv1) zy_X6_clear ⟨w1116, w1117⟩ w1115 dX7_readText_4 rfl (Nat.le_of_ble_eq_true rfl) rfl rfl rfl (Nat.le_of_ble_eq_true rfl) rfl ?_
  refine z_aload_n (pc := 7) hG 0 rfl rfl dX7_readText_7 ?_
  refine z_iconst (pc := 8) hG kc_0 dX7_readText_8 ?_
  refine z_puti (pc := 9) hG zc_X7 inX7 tyX7 tyX7_ok nmX7 DL_19 4 rfl (by decide) rfl w602 rfl rfl rfl dX7_readText_9 ?_
  refine z_aload_n (pc := 12) hG 0 rfl rfl dX7_readText_12 ?_
  refine z_iconst (pc := 13) hG kc_0 dX7_readText_13 ?_
  refine z_puti (pc := 14) hG zc_X7 inX7 tyX7 tyX7_ok nmX7 DL_19 3 rfl (by decide) rfl w601 rfl rfl rfl dX7_readText_14 ?_
  refine z_aload_n (pc := 17) hG 0 rfl rfl dX7_readText_17 ?_
  replace h := zbind h
  obtain ⟨v2, hv2, h⟩ := h
  refine z_cvV (pc := 18) (A' := 0) (B' := 0) hG [] [] zc_X7 DL_19 (tX7_next hl0  (zi (zi v1 19 4 (0 : Int32)) 19 3 (0 : Int32)) hv2) zy_X7_next ⟨w1121, wp25⟩ w1119 dX7_readText_18 rfl (Nat.le_of_ble_eq_true rfl) rfl rfl rfl (Nat.le_of_ble_eq_true rfl) rfl ?_
  refine z_iconst (pc := 21) hG kc_0 dX7_readText_21 ?_
  refine z_istore_n (pc := 22) (ls' := [(1, .int (0 : Int32)), (0, .ref 19)]) hG [0, 1] rfl (by decide) rfl dX7_readText_22 ?_
  refine z_sub (ls' := [(0, .ref 19), (1, .int (0 : Int32))]) [1, 0] rfl ?_
  exact kwX7_readText_23 hG hl0  hk ((0 : Int32), v2) h
noncomputable def nX7_place (g : zS) : Option Int32 :=
  some ((g.1 19 2))
set_option maxHeartbeats 60000 in
theorem tX7_place {l : Launch} (hl0 : l.flags = flags0) (g : zS) {r : Int32} (h : nX7_place g = some r) : zC l yX7_place cX7_place 1 ((Option.some Jvm.ClassFile.FieldType.int)) 0 0 0 [.ref 19] zD g (.inl (some (.int r)), zD, g) := by
  refine zC_of hl0 rfl (Nat.le_of_ble_eq_true rfl) (fun x hG hxl hk _ => ?_)
  subst hxl
  show zK x 0 0 [(0, .ref 19)] [] zD g 0 0
  unfold nX7_place at h
  refine z_aload_n (pc := 0) hG 0 rfl rfl dX7_place_0 ?_
  refine z_geti (pc := 1) hG zc_X7 inX7 DL_19 2 rfl (by decide) rfl w600 dX7_place_1 ?_
  obtain rfl := Option.some.inj h
  exact z_iret (pc := 4) hG rfl rfl hk dX7_place_4
noncomputable def nX6_copyFrom_d (g : zS) : Option zS :=
  zchk (zcpo (0 : Int32) (0 : Int32) (5 : Int32) 5 5) (zchk (zcpo (0 : Int32) (0 : Int32) (5 : Int32) 5 5) (zchk (zcpo (0 : Int32) (0 : Int32) (5 : Int32) 5 5) (zchk (zcpo (0 : Int32) (0 : Int32) (30 : Int32) 30 30) (zchk (zcpb ((zcpy (zcpy (zcpy (zi g 3 0 (g.1 11 0)) 12 4 (0 : Int32) (0 : Int32) (5 : Int32)) 13 5 (0 : Int32) (0 : Int32) (5 : Int32)) 14 6 (0 : Int32) (0 : Int32) (5 : Int32)).1 15) (0 : Int32) (30 : Int32)) (zchk (zcpo (0 : Int32) (0 : Int32) (5 : Int32) 5 5) (zchk (zcpo (0 : Int32) (0 : Int32) (30 : Int32) 30 30) (zchk (zcpo (0 : Int32) (0 : Int32) (40 : Int32) 40 40) (some ((zcpy (zi (zcpy (zi (zi (zcpy (zcpy (zcpy (zcpy (zcpy (zi g 3 0 (g.1 11 0)) 12 4 (0 : Int32) (0 : Int32) (5 : Int32)) 13 5 (0 : Int32) (0 : Int32) (5 : Int32)) 14 6 (0 : Int32) (0 : Int32) (5 : Int32)) 15 7 (0 : Int32) (0 : Int32) (30 : Int32)) 16 8 (0 : Int32) (0 : Int32) (5 : Int32)) 3 6 ((zcpy (zcpy (zcpy (zcpy (zcpy (zi g 3 0 (g.1 11 0)) 12 4 (0 : Int32) (0 : Int32) (5 : Int32)) 13 5 (0 : Int32) (0 : Int32) (5 : Int32)) 14 6 (0 : Int32) (0 : Int32) (5 : Int32)) 15 7 (0 : Int32) (0 : Int32) (30 : Int32)) 16 8 (0 : Int32) (0 : Int32) (5 : Int32)).1 11 6)) 3 7 ((zi (zcpy (zcpy (zcpy (zcpy (zcpy (zi g 3 0 (g.1 11 0)) 12 4 (0 : Int32) (0 : Int32) (5 : Int32)) 13 5 (0 : Int32) (0 : Int32) (5 : Int32)) 14 6 (0 : Int32) (0 : Int32) (5 : Int32)) 15 7 (0 : Int32) (0 : Int32) (30 : Int32)) 16 8 (0 : Int32) (0 : Int32) (5 : Int32)) 3 6 ((zcpy (zcpy (zcpy (zcpy (zcpy (zi g 3 0 (g.1 11 0)) 12 4 (0 : Int32) (0 : Int32) (5 : Int32)) 13 5 (0 : Int32) (0 : Int32) (5 : Int32)) 14 6 (0 : Int32) (0 : Int32) (5 : Int32)) 15 7 (0 : Int32) (0 : Int32) (30 : Int32)) 16 8 (0 : Int32) (0 : Int32) (5 : Int32)).1 11 6)).1 11 7)) 17 9 (0 : Int32) (0 : Int32) (30 : Int32)) 3 9 ((zcpy (zi (zi (zcpy (zcpy (zcpy (zcpy (zcpy (zi g 3 0 (g.1 11 0)) 12 4 (0 : Int32) (0 : Int32) (5 : Int32)) 13 5 (0 : Int32) (0 : Int32) (5 : Int32)) 14 6 (0 : Int32) (0 : Int32) (5 : Int32)) 15 7 (0 : Int32) (0 : Int32) (30 : Int32)) 16 8 (0 : Int32) (0 : Int32) (5 : Int32)) 3 6 ((zcpy (zcpy (zcpy (zcpy (zcpy (zi g 3 0 (g.1 11 0)) 12 4 (0 : Int32) (0 : Int32) (5 : Int32)) 13 5 (0 : Int32) (0 : Int32) (5 : Int32)) 14 6 (0 : Int32) (0 : Int32) (5 : Int32)) 15 7 (0 : Int32) (0 : Int32) (30 : Int32)) 16 8 (0 : Int32) (0 : Int32) (5 : Int32)).1 11 6)) 3 7 ((zi (zcpy (zcpy (zcpy (zcpy (zcpy (zi g 3 0 (g.1 11 0)) 12 4 (0 : Int32) (0 : Int32) (5 : Int32)) 13 5 (0 : Int32) (0 : Int32) (5 : Int32)) 14 6 (0 : Int32) (0 : Int32) (5 : Int32)) 15 7 (0 : Int32) (0 : Int32) (30 : Int32)) 16 8 (0 : Int32) (0 : Int32) (5 : Int32)) 3 6 ((zcpy (zcpy (zcpy (zcpy (zcpy (zi g 3 0 (g.1 11 0)) 12 4 (0 : Int32) (0 : Int32) (5 : Int32)) 13 5 (0 : Int32) (0 : Int32) (5 : Int32)) 14 6 (0 : Int32) (0 : Int32) (5 : Int32)) 15 7 (0 : Int32) (0 : Int32) (30 : Int32)) 16 8 (0 : Int32) (0 : Int32) (5 : Int32)).1 11 6)).1 11 7)) 17 9 (0 : Int32) (0 : Int32) (30 : Int32)).1 11 9)) 18 10 (0 : Int32) (0 : Int32) (40 : Int32)))))))))))
set_option maxHeartbeats 60000 in
theorem tX6_copyFrom_d {l : Launch} (hl0 : l.flags = flags0) (g : zS) {r : zS} (h : nX6_copyFrom_d g = some r) : zC l yX6_copyFrom cX6_copyFrom 2 ((Option.none : Option Jvm.ClassFile.FieldType)) 0 0 0 [.ref 3, .ref 11] zD g (.inl none, zD, r) := by
  refine zC_of hl0 rfl (Nat.le_of_ble_eq_true rfl) (fun x hG hxl hk _ => ?_)
  subst hxl
  show zK x 0 0 [(0, .ref 3), (1, .ref 11)] [] zD g 0 0
  unfold nX6_copyFrom_d at h
  refine z_aload_n (pc := 0) hG 0 rfl rfl dX6_copyFrom_0 ?_
  refine z_aload_n (pc := 1) hG 1 rfl rfl dX6_copyFrom_1 ?_
  refine z_geti (pc := 2) hG zc_X6 inX6 DL_11 0 rfl (by decide) rfl w532 dX6_copyFrom_2 ?_
  refine z_puti (pc := 5) hG zc_X6 inX6 tyX6 tyX6_ok nmX6 DL_3 0 rfl (by decide) rfl w532 rfl rfl rfl dX6_copyFrom_5 ?_
  refine z_aload_n (pc := 8) hG 1 rfl rfl dX6_copyFrom_8 ?_
  refine z_getr (pc := 9) hG zc_X6 inX6 DL_11 1 rfl (by decide) rfl w538 dX6_copyFrom_9 ?_
  refine z_iconst (pc := 12) hG kc_0 dX6_copyFrom_12 ?_
  refine z_aload_n (pc := 13) hG 0 rfl rfl dX6_copyFrom_13 ?_
  refine z_getr (pc := 14) hG zc_X6 inX6 DL_3 1 rfl (by decide) rfl w538 dX6_copyFrom_14 ?_
  refine z_iconst (pc := 17) hG kc_0 dX6_copyFrom_17 ?_
  refine z_iconst (pc := 18) hG kc_5 dX6_copyFrom_18 ?_
  replace h := zchk_some h
  obtain ⟨hc, h⟩ := h
  refine z_copyI (pc := 19) hG DL_12 DL_4 w1217 w186 w185 w18 (Nat.le_of_ble_eq_true rfl) hc dX6_copyFrom_19 ?_
  refine z_aload_n (pc := 22) hG 1 rfl rfl dX6_copyFrom_22 ?_
  refine z_getr (pc := 23) hG zc_X6 inX6 DL_11 2 rfl (by decide) rfl w543 dX6_copyFrom_23 ?_
  refine z_iconst (pc := 26) hG kc_0 dX6_copyFrom_26 ?_
  refine z_aload_n (pc := 27) hG 0 rfl rfl dX6_copyFrom_27 ?_
  refine z_getr (pc := 28) hG zc_X6 inX6 DL_3 2 rfl (by decide) rfl w543 dX6_copyFrom_28 ?_
  refine z_iconst (pc := 31) hG kc_0 dX6_copyFrom_31 ?_
  refine z_iconst (pc := 32) hG kc_5 dX6_copyFrom_32 ?_
  replace h := zchk_some h
  obtain ⟨hc, h⟩ := h
  refine z_copyI (pc := 33) hG DL_13 DL_5 w1217 w186 w185 w18 (Nat.le_of_ble_eq_true rfl) hc dX6_copyFrom_33 ?_
  refine z_aload_n (pc := 36) hG 1 rfl rfl dX6_copyFrom_36 ?_
  refine z_getr (pc := 37) hG zc_X6 inX6 DL_11 3 rfl (by decide) rfl w546 dX6_copyFrom_37 ?_
  refine z_iconst (pc := 40) hG kc_0 dX6_copyFrom_40 ?_
  refine z_aload_n (pc := 41) hG 0 rfl rfl dX6_copyFrom_41 ?_
  refine z_getr (pc := 42) hG zc_X6 inX6 DL_3 3 rfl (by decide) rfl w546 dX6_copyFrom_42 ?_
  refine z_iconst (pc := 45) hG kc_0 dX6_copyFrom_45 ?_
  refine z_iconst (pc := 46) hG kc_5 dX6_copyFrom_46 ?_
  replace h := zchk_some h
  obtain ⟨hc, h⟩ := h
  refine z_copyI (pc := 47) hG DL_14 DL_6 w1217 w186 w185 w18 (Nat.le_of_ble_eq_true rfl) hc dX6_copyFrom_47 ?_
  refine z_aload_n (pc := 50) hG 1 rfl rfl dX6_copyFrom_50 ?_
  refine z_getr (pc := 51) hG zc_X6 inX6 DL_11 4 rfl (by decide) rfl w549 dX6_copyFrom_51 ?_
  refine z_iconst (pc := 54) hG kc_0 dX6_copyFrom_54 ?_
  refine z_aload_n (pc := 55) hG 0 rfl rfl dX6_copyFrom_55 ?_
  refine z_getr (pc := 56) hG zc_X6 inX6 DL_3 4 rfl (by decide) rfl w549 dX6_copyFrom_56 ?_
  refine z_iconst (pc := 59) hG kc_0 dX6_copyFrom_59 ?_
  refine z_bipush (pc := 60) hG kb_30 dX6_copyFrom_60 ?_
  replace h := zchk_some h
  obtain ⟨hc, h⟩ := h
  replace h := zchk_some h
  obtain ⟨hc2, h⟩ := h
  refine z_copyB (pc := 62) hG DL_15 DL_7 w1217 w186 w185 w18 (Nat.le_of_ble_eq_true rfl) hc hc2 dX6_copyFrom_62 ?_
  refine z_aload_n (pc := 65) hG 1 rfl rfl dX6_copyFrom_65 ?_
  refine z_getr (pc := 66) hG zc_X6 inX6 DL_11 5 rfl (by decide) rfl w551 dX6_copyFrom_66 ?_
  refine z_iconst (pc := 69) hG kc_0 dX6_copyFrom_69 ?_
  refine z_aload_n (pc := 70) hG 0 rfl rfl dX6_copyFrom_70 ?_
  refine z_getr (pc := 71) hG zc_X6 inX6 DL_3 5 rfl (by decide) rfl w551 dX6_copyFrom_71 ?_
  refine z_iconst (pc := 74) hG kc_0 dX6_copyFrom_74 ?_
  refine z_iconst (pc := 75) hG kc_5 dX6_copyFrom_75 ?_
  replace h := zchk_some h
  obtain ⟨hc, h⟩ := h
  refine z_copyI (pc := 76) hG DL_16 DL_8 w1217 w186 w185 w18 (Nat.le_of_ble_eq_true rfl) hc dX6_copyFrom_76 ?_
  refine z_aload_n (pc := 79) hG 0 rfl rfl dX6_copyFrom_79 ?_
  refine z_aload_n (pc := 80) hG 1 rfl rfl dX6_copyFrom_80 ?_
  refine z_geti (pc := 81) hG zc_X6 inX6 DL_11 6 rfl (by decide) rfl w553 dX6_copyFrom_81 ?_
  refine z_puti (pc := 84) hG zc_X6 inX6 tyX6 tyX6_ok nmX6 DL_3 6 rfl (by decide) rfl w553 rfl rfl rfl dX6_copyFrom_84 ?_
  refine z_aload_n (pc := 87) hG 0 rfl rfl dX6_copyFrom_87 ?_
  refine z_aload_n (pc := 88) hG 1 rfl rfl dX6_copyFrom_88 ?_
  refine z_geti (pc := 89) hG zc_X6 inX6 DL_11 7 rfl (by decide) rfl w557 dX6_copyFrom_89 ?_
  refine z_puti (pc := 92) hG zc_X6 inX6 tyX6 tyX6_ok nmX6 DL_3 7 rfl (by decide) rfl w557 rfl rfl rfl dX6_copyFrom_92 ?_
  refine z_aload_n (pc := 95) hG 1 rfl rfl dX6_copyFrom_95 ?_
  refine z_getr (pc := 96) hG zc_X6 inX6 DL_11 8 rfl (by decide) rfl w561 dX6_copyFrom_96 ?_
  refine z_iconst (pc := 99) hG kc_0 dX6_copyFrom_99 ?_
  refine z_aload_n (pc := 100) hG 0 rfl rfl dX6_copyFrom_100 ?_
  refine z_getr (pc := 101) hG zc_X6 inX6 DL_3 8 rfl (by decide) rfl w561 dX6_copyFrom_101 ?_
  refine z_iconst (pc := 104) hG kc_0 dX6_copyFrom_104 ?_
  refine z_bipush (pc := 105) hG kb_30 dX6_copyFrom_105 ?_
  replace h := zchk_some h
  obtain ⟨hc, h⟩ := h
  refine z_copyI (pc := 107) hG DL_17 DL_9 w1217 w186 w185 w18 (Nat.le_of_ble_eq_true rfl) hc dX6_copyFrom_107 ?_
  refine z_aload_n (pc := 110) hG 0 rfl rfl dX6_copyFrom_110 ?_
  refine z_aload_n (pc := 111) hG 1 rfl rfl dX6_copyFrom_111 ?_
  refine z_geti (pc := 112) hG zc_X6 inX6 DL_11 9 rfl (by decide) rfl w564 dX6_copyFrom_112 ?_
  refine z_puti (pc := 115) hG zc_X6 inX6 tyX6 tyX6_ok nmX6 DL_3 9 rfl (by decide) rfl w564 rfl rfl rfl dX6_copyFrom_115 ?_
  refine z_aload_n (pc := 118) hG 1 rfl rfl dX6_copyFrom_118 ?_
  refine z_getr (pc := 119) hG zc_X6 inX6 DL_11 10 rfl (by decide) rfl w566 dX6_copyFrom_119 ?_
  refine z_iconst (pc := 122) hG kc_0 dX6_copyFrom_122 ?_
  refine z_aload_n (pc := 123) hG 0 rfl rfl dX6_copyFrom_123 ?_
  refine z_getr (pc := 124) hG zc_X6 inX6 DL_3 10 rfl (by decide) rfl w566 dX6_copyFrom_124 ?_
  refine z_iconst (pc := 127) hG kc_0 dX6_copyFrom_127 ?_
  refine z_bipush (pc := 128) hG kb_40 dX6_copyFrom_128 ?_
  replace h := zchk_some h
  obtain ⟨hc, h⟩ := h
  refine z_copyI (pc := 130) hG DL_18 DL_10 w1217 w186 w185 w18 (Nat.le_of_ble_eq_true rfl) hc dX6_copyFrom_130 ?_
  obtain rfl := Option.some.inj h
  exact z_vret (pc := 133) hG rfl hk dX6_copyFrom_133
noncomputable def nX6_allFields (g : zS) : Option Int32 :=
  some ((((1 : Int32) <<< ((g.1 3 0) &&& 31)) - (1 : Int32)))
set_option maxHeartbeats 60000 in
theorem tX6_allFields {l : Launch} (hl0 : l.flags = flags0) (g : zS) {r : Int32} (h : nX6_allFields g = some r) : zC l yX6_allFields cX6_allFields 1 ((Option.some Jvm.ClassFile.FieldType.int)) 0 0 0 [.ref 3] zD g (.inl (some (.int r)), zD, g) := by
  refine zC_of hl0 rfl (Nat.le_of_ble_eq_true rfl) (fun x hG hxl hk _ => ?_)
  subst hxl
  show zK x 0 0 [(0, .ref 3)] [] zD g 0 0
  unfold nX6_allFields at h
  refine z_iconst (pc := 0) hG kc_1 dX6_allFields_0 ?_
  refine z_aload_n (pc := 1) hG 0 rfl rfl dX6_allFields_1 ?_
  refine z_geti (pc := 2) hG zc_X6 inX6 DL_3 0 rfl (by decide) rfl w532 dX6_allFields_2 ?_
  refine z_ishl (pc := 5) hG dX6_allFields_5 ?_
  refine z_iconst (pc := 6) hG kc_1 dX6_allFields_6 ?_
  refine z_isub (pc := 7) hG dX6_allFields_7 ?_
  obtain rfl := Option.some.inj h
  exact z_iret (pc := 8) hG rfl rfl hk dX6_allFields_8
noncomputable def wX6_weightOf_4 (a1 : Int32) (g : zS) (s : (Int32 × Int32)) : Option ((Int32 × Int32) ⊕ Int32) :=
  if (g.1 3 0) ≤ s.2 then (zex (some (s.1))) else (if ((a1 >>> (s.2 &&& 31)) &&& (1 : Int32)) = 0 then (some (.inl (s.1, (s.2 + (1 : Int32))))) else (zchk (zin s.2 5) (some (.inl ((s.1 + (g.1 5 s.2.toNatClampNeg)), (s.2 + (1 : Int32)))))))
noncomputable def nX6_weightOf (a1 : Int32) (g : zS) : Option Int32 :=
  wh (wX6_weightOf_4 a1 g) ((0 : Int32), (0 : Int32))
def qX6_weightOf_4 (x : zXx) (a1 : Int32) (g : zS) (o : (Int32 × Int32) ⊕ Int32) : Prop := match o with
  | .inl s => zK x 0 4 [(0, .ref 3), (1, .int a1), (2, .int s.1), (3, .int s.2)] [] zD g 0 0
  | .inr r => ztg x = (.inl (some (.int r)), zD, g)
set_option maxHeartbeats 60000 in
theorem kwX6_weightOf_4 {x : zXx} (hG : zG x cX6_weightOf 4 RX6 ((Option.some Jvm.ClassFile.FieldType.int))) (hl0 : (zl0 x).flags = flags0) (a1 : Int32) (g : zS) {o : Int32} (hk : ztg x = (.inl (some (.int o)), zD, g)) : ∀ s : (Int32 × Int32), wh (wX6_weightOf_4 a1 g) s = some o → zK x 0 4 [(0, .ref 3), (1, .int a1), (2, .int s.1), (3, .int s.2)] [] zD g 0 0 := by
  refine wh_ind (fun s : (Int32 × Int32) => zK x 0 4 [(0, .ref 3), (1, .int a1), (2, .int s.1), (3, .int s.2)] [] zD g 0 0) (fun s o h hk2 => ?_)
  replace hk : qX6_weightOf_4 x a1 g o := by
    cases o with
    | inl s => exact hk2
    | inr r => subst hk2; exact hk
  clear hk2
  unfold wX6_weightOf_4 at h
  refine z_iload_n (pc := 4) hG 3 rfl rfl dX6_weightOf_4 ?_
  refine z_aload_n (pc := 5) hG 0 rfl rfl dX6_weightOf_5 ?_
  refine z_geti (pc := 6) hG zc_X6 inX6 DL_3 0 rfl (by decide) rfl w532 dX6_weightOf_6 ?_
  refine z_icmp_ge (pc := 9) (tgt := 35) hG dX6_weightOf_9 rfl (fun hc => ?_) (fun hc => ?_)
  · replace h := zif_t hc h
    replace h := zex_some h
    obtain ⟨o, h, rfl⟩ := h
    refine z_iload_n (pc := 35) hG 2 rfl rfl dX6_weightOf_35 ?_
    obtain rfl := Option.some.inj h
    exact z_iret (pc := 36) hG rfl rfl hk dX6_weightOf_36
  · replace h := zif_f hc h
    refine z_iload_n (pc := 12) hG 1 rfl rfl dX6_weightOf_12 ?_
    refine z_iload_n (pc := 13) hG 3 rfl rfl dX6_weightOf_13 ?_
    refine z_ishr (pc := 14) hG dX6_weightOf_14 ?_
    refine z_iconst (pc := 15) hG kc_1 dX6_weightOf_15 ?_
    refine z_iand (pc := 16) hG dX6_weightOf_16 ?_
    refine z_if_eq (pc := 17) (tgt := 29) hG dX6_weightOf_17 rfl (fun hc => ?_) (fun hc => ?_)
    · replace h := zif_t hc h
      refine z_iinc (pc := 29) (ls' := [(3, .int (s.2 + (1 : Int32))), (0, .ref 3), (1, .int a1), (2, .int s.1)]) hG 3 rfl [0, 1, 2, 3] (ki_1 _) (by decide) rfl dX6_weightOf_29 ?_
      refine z_goto (pc := 32) (tgt := 4) hG dX6_weightOf_32 rfl ?_
      obtain rfl := Option.some.inj h
      refine z_sub (ls' := [(0, .ref 3), (1, .int a1), (2, .int s.1), (3, .int (s.2 + (1 : Int32)))]) [1, 2, 3, 0] rfl ?_
      exact hk
    · replace h := zif_f hc h
      refine z_iload_n (pc := 20) hG 2 rfl rfl dX6_weightOf_20 ?_
      refine z_aload_n (pc := 21) hG 0 rfl rfl dX6_weightOf_21 ?_
      refine z_getr (pc := 22) hG zc_X6 inX6 DL_3 2 rfl (by decide) rfl w543 dX6_weightOf_22 ?_
      refine z_iload_n (pc := 25) hG 3 rfl rfl dX6_weightOf_25 ?_
      replace h := zchk_some h
      obtain ⟨hc, h⟩ := h
      refine z_iald (pc := 26) hG DL_5 (zin_in hc) dX6_weightOf_26 ?_
      refine z_iadd (pc := 27) hG dX6_weightOf_27 ?_
      refine z_istore_n (pc := 28) (ls' := [(2, .int (s.1 + (g.1 5 s.2.toNatClampNeg))), (0, .ref 3), (1, .int a1), (3, .int s.2)]) hG [0, 1, 2, 3] rfl (by decide) rfl dX6_weightOf_28 ?_
      refine z_iinc (pc := 29) (ls' := [(3, .int (s.2 + (1 : Int32))), (2, .int (s.1 + (g.1 5 s.2.toNatClampNeg))), (0, .ref 3), (1, .int a1)]) hG 3 rfl [0, 1, 2, 3] (ki_1 _) (by decide) rfl dX6_weightOf_29 ?_
      refine z_goto (pc := 32) (tgt := 4) hG dX6_weightOf_32 rfl ?_
      obtain rfl := Option.some.inj h
      refine z_sub (ls' := [(0, .ref 3), (1, .int a1), (2, .int (s.1 + (g.1 5 s.2.toNatClampNeg))), (3, .int (s.2 + (1 : Int32)))]) [2, 3, 1, 0] rfl ?_
      exact hk
set_option maxHeartbeats 60000 in
theorem tX6_weightOf {l : Launch} (hl0 : l.flags = flags0) (a1 : Int32) (g : zS) {r : Int32} (h : nX6_weightOf a1 g = some r) : zC l yX6_weightOf cX6_weightOf 4 ((Option.some Jvm.ClassFile.FieldType.int)) 0 0 0 [.ref 3, .int a1] zD g (.inl (some (.int r)), zD, g) := by
  refine zC_of hl0 rfl (Nat.le_of_ble_eq_true rfl) (fun x hG hxl hk _ => ?_)
  subst hxl
  show zK x 0 0 [(0, .ref 3), (1, .int a1)] [] zD g 0 0
  unfold nX6_weightOf at h
  refine z_iconst (pc := 0) hG kc_0 dX6_weightOf_0 ?_
  refine z_istore_n (pc := 1) (ls' := [(2, .int (0 : Int32)), (0, .ref 3), (1, .int a1)]) hG [0, 1, 2] rfl (by decide) rfl dX6_weightOf_1 ?_
  refine z_iconst (pc := 2) hG kc_0 dX6_weightOf_2 ?_
  refine z_istore_n (pc := 3) (ls' := [(3, .int (0 : Int32)), (2, .int (0 : Int32)), (0, .ref 3), (1, .int a1)]) hG [0, 1, 2, 3] rfl (by decide) rfl dX6_weightOf_3 ?_
  refine z_sub (ls' := [(0, .ref 3), (1, .int a1), (2, .int (0 : Int32)), (3, .int (0 : Int32))]) [2, 3, 1, 0] rfl ?_
  exact kwX6_weightOf_4 hG hl0 a1 g hk ((0 : Int32), (0 : Int32)) h
noncomputable def nJ6_bitCount_0f7a4 (a0 : Int32) : Option Int32 :=
  some (((((((((a0 - (((a0.toUInt32 >>> ((1 : Int32).toUInt32 &&& Int32.toUInt32 31)).toInt32) &&& (1431655765 : Int32))) &&& (858993459 : Int32)) + ((((a0 - (((a0.toUInt32 >>> ((1 : Int32).toUInt32 &&& Int32.toUInt32 31)).toInt32) &&& (1431655765 : Int32))).toUInt32 >>> ((2 : Int32).toUInt32 &&& Int32.toUInt32 31)).toInt32) &&& (858993459 : Int32))) + (((((a0 - (((a0.toUInt32 >>> ((1 : Int32).toUInt32 &&& Int32.toUInt32 31)).toInt32) &&& (1431655765 : Int32))) &&& (858993459 : Int32)) + ((((a0 - (((a0.toUInt32 >>> ((1 : Int32).toUInt32 &&& Int32.toUInt32 31)).toInt32) &&& (1431655765 : Int32))).toUInt32 >>> ((2 : Int32).toUInt32 &&& Int32.toUInt32 31)).toInt32) &&& (858993459 : Int32))).toUInt32 >>> ((4 : Int32).toUInt32 &&& Int32.toUInt32 31)).toInt32)) &&& (252645135 : Int32)) + (((((((a0 - (((a0.toUInt32 >>> ((1 : Int32).toUInt32 &&& Int32.toUInt32 31)).toInt32) &&& (1431655765 : Int32))) &&& (858993459 : Int32)) + ((((a0 - (((a0.toUInt32 >>> ((1 : Int32).toUInt32 &&& Int32.toUInt32 31)).toInt32) &&& (1431655765 : Int32))).toUInt32 >>> ((2 : Int32).toUInt32 &&& Int32.toUInt32 31)).toInt32) &&& (858993459 : Int32))) + (((((a0 - (((a0.toUInt32 >>> ((1 : Int32).toUInt32 &&& Int32.toUInt32 31)).toInt32) &&& (1431655765 : Int32))) &&& (858993459 : Int32)) + ((((a0 - (((a0.toUInt32 >>> ((1 : Int32).toUInt32 &&& Int32.toUInt32 31)).toInt32) &&& (1431655765 : Int32))).toUInt32 >>> ((2 : Int32).toUInt32 &&& Int32.toUInt32 31)).toInt32) &&& (858993459 : Int32))).toUInt32 >>> ((4 : Int32).toUInt32 &&& Int32.toUInt32 31)).toInt32)) &&& (252645135 : Int32)).toUInt32 >>> ((8 : Int32).toUInt32 &&& Int32.toUInt32 31)).toInt32)) + ((((((((a0 - (((a0.toUInt32 >>> ((1 : Int32).toUInt32 &&& Int32.toUInt32 31)).toInt32) &&& (1431655765 : Int32))) &&& (858993459 : Int32)) + ((((a0 - (((a0.toUInt32 >>> ((1 : Int32).toUInt32 &&& Int32.toUInt32 31)).toInt32) &&& (1431655765 : Int32))).toUInt32 >>> ((2 : Int32).toUInt32 &&& Int32.toUInt32 31)).toInt32) &&& (858993459 : Int32))) + (((((a0 - (((a0.toUInt32 >>> ((1 : Int32).toUInt32 &&& Int32.toUInt32 31)).toInt32) &&& (1431655765 : Int32))) &&& (858993459 : Int32)) + ((((a0 - (((a0.toUInt32 >>> ((1 : Int32).toUInt32 &&& Int32.toUInt32 31)).toInt32) &&& (1431655765 : Int32))).toUInt32 >>> ((2 : Int32).toUInt32 &&& Int32.toUInt32 31)).toInt32) &&& (858993459 : Int32))).toUInt32 >>> ((4 : Int32).toUInt32 &&& Int32.toUInt32 31)).toInt32)) &&& (252645135 : Int32)) + (((((((a0 - (((a0.toUInt32 >>> ((1 : Int32).toUInt32 &&& Int32.toUInt32 31)).toInt32) &&& (1431655765 : Int32))) &&& (858993459 : Int32)) + ((((a0 - (((a0.toUInt32 >>> ((1 : Int32).toUInt32 &&& Int32.toUInt32 31)).toInt32) &&& (1431655765 : Int32))).toUInt32 >>> ((2 : Int32).toUInt32 &&& Int32.toUInt32 31)).toInt32) &&& (858993459 : Int32))) + (((((a0 - (((a0.toUInt32 >>> ((1 : Int32).toUInt32 &&& Int32.toUInt32 31)).toInt32) &&& (1431655765 : Int32))) &&& (858993459 : Int32)) + ((((a0 - (((a0.toUInt32 >>> ((1 : Int32).toUInt32 &&& Int32.toUInt32 31)).toInt32) &&& (1431655765 : Int32))).toUInt32 >>> ((2 : Int32).toUInt32 &&& Int32.toUInt32 31)).toInt32) &&& (858993459 : Int32))).toUInt32 >>> ((4 : Int32).toUInt32 &&& Int32.toUInt32 31)).toInt32)) &&& (252645135 : Int32)).toUInt32 >>> ((8 : Int32).toUInt32 &&& Int32.toUInt32 31)).toInt32)).toUInt32 >>> ((16 : Int32).toUInt32 &&& Int32.toUInt32 31)).toInt32)) &&& (63 : Int32)))
set_option maxHeartbeats 60000 in
theorem tJ6_bitCount_0f7a4 {l : Launch} (hl0 : l.flags = flags0) (a0 : Int32) (g : zS) {r : Int32} (h : nJ6_bitCount_0f7a4 a0 = some r) : zC l yJ6_bitCount_0f7a4 cJ6_bitCount_0f7a4 1 ((Option.some Jvm.ClassFile.FieldType.int)) 0 0 0 [.int a0] zD g (.inl (some (.int r)), zD, g) := by
  refine zC_of hl0 rfl (Nat.le_of_ble_eq_true rfl) (fun x hG hxl hk _ => ?_)
  subst hxl
  show zK x 0 0 [(0, .int a0)] [] zD g 0 0
  unfold nJ6_bitCount_0f7a4 at h
  refine z_iload_n (pc := 0) hG 0 rfl rfl dJ6_bitCount_0f7a4_0 ?_
  refine z_iload_n (pc := 1) hG 0 rfl rfl dJ6_bitCount_0f7a4_1 ?_
  refine z_iconst (pc := 2) hG kc_1 dJ6_bitCount_0f7a4_2 ?_
  refine z_iushr (pc := 3) hG dJ6_bitCount_0f7a4_3 ?_
  refine z_ldcw (pc := 4) hG w402 dJ6_bitCount_0f7a4_4 ?_
  refine z_iand (pc := 7) hG dJ6_bitCount_0f7a4_7 ?_
  refine z_isub (pc := 8) hG dJ6_bitCount_0f7a4_8 ?_
  refine z_istore_n (pc := 9) (ls' := [(0, .int (a0 - (((a0.toUInt32 >>> ((1 : Int32).toUInt32 &&& Int32.toUInt32 31)).toInt32) &&& (1431655765 : Int32))))]) hG [0] rfl (by decide) rfl dJ6_bitCount_0f7a4_9 ?_
  refine z_iload_n (pc := 10) hG 0 rfl rfl dJ6_bitCount_0f7a4_10 ?_
  refine z_ldcw (pc := 11) hG w403 dJ6_bitCount_0f7a4_11 ?_
  refine z_iand (pc := 14) hG dJ6_bitCount_0f7a4_14 ?_
  refine z_iload_n (pc := 15) hG 0 rfl rfl dJ6_bitCount_0f7a4_15 ?_
  refine z_iconst (pc := 16) hG kc_2 dJ6_bitCount_0f7a4_16 ?_
  refine z_iushr (pc := 17) hG dJ6_bitCount_0f7a4_17 ?_
  refine z_ldcw (pc := 18) hG w403 dJ6_bitCount_0f7a4_18 ?_
  refine z_iand (pc := 21) hG dJ6_bitCount_0f7a4_21 ?_
  refine z_iadd (pc := 22) hG dJ6_bitCount_0f7a4_22 ?_
  refine z_istore_n (pc := 23) (ls' := [(0, .int (((a0 - (((a0.toUInt32 >>> ((1 : Int32).toUInt32 &&& Int32.toUInt32 31)).toInt32) &&& (1431655765 : Int32))) &&& (858993459 : Int32)) + ((((a0 - (((a0.toUInt32 >>> ((1 : Int32).toUInt32 &&& Int32.toUInt32 31)).toInt32) &&& (1431655765 : Int32))).toUInt32 >>> ((2 : Int32).toUInt32 &&& Int32.toUInt32 31)).toInt32) &&& (858993459 : Int32))))]) hG [0] rfl (by decide) rfl dJ6_bitCount_0f7a4_23 ?_
  refine z_iload_n (pc := 24) hG 0 rfl rfl dJ6_bitCount_0f7a4_24 ?_
  refine z_iload_n (pc := 25) hG 0 rfl rfl dJ6_bitCount_0f7a4_25 ?_
  refine z_iconst (pc := 26) hG kc_4 dJ6_bitCount_0f7a4_26 ?_
  refine z_iushr (pc := 27) hG dJ6_bitCount_0f7a4_27 ?_
  refine z_iadd (pc := 28) hG dJ6_bitCount_0f7a4_28 ?_
  refine z_ldcw (pc := 29) hG w404 dJ6_bitCount_0f7a4_29 ?_
  refine z_iand (pc := 32) hG dJ6_bitCount_0f7a4_32 ?_
  refine z_istore_n (pc := 33) (ls' := [(0, .int (((((a0 - (((a0.toUInt32 >>> ((1 : Int32).toUInt32 &&& Int32.toUInt32 31)).toInt32) &&& (1431655765 : Int32))) &&& (858993459 : Int32)) + ((((a0 - (((a0.toUInt32 >>> ((1 : Int32).toUInt32 &&& Int32.toUInt32 31)).toInt32) &&& (1431655765 : Int32))).toUInt32 >>> ((2 : Int32).toUInt32 &&& Int32.toUInt32 31)).toInt32) &&& (858993459 : Int32))) + (((((a0 - (((a0.toUInt32 >>> ((1 : Int32).toUInt32 &&& Int32.toUInt32 31)).toInt32) &&& (1431655765 : Int32))) &&& (858993459 : Int32)) + ((((a0 - (((a0.toUInt32 >>> ((1 : Int32).toUInt32 &&& Int32.toUInt32 31)).toInt32) &&& (1431655765 : Int32))).toUInt32 >>> ((2 : Int32).toUInt32 &&& Int32.toUInt32 31)).toInt32) &&& (858993459 : Int32))).toUInt32 >>> ((4 : Int32).toUInt32 &&& Int32.toUInt32 31)).toInt32)) &&& (252645135 : Int32)))]) hG [0] rfl (by decide) rfl dJ6_bitCount_0f7a4_33 ?_
  refine z_iload_n (pc := 34) hG 0 rfl rfl dJ6_bitCount_0f7a4_34 ?_
  refine z_iload_n (pc := 35) hG 0 rfl rfl dJ6_bitCount_0f7a4_35 ?_
  refine z_bipush (pc := 36) hG kb_8 dJ6_bitCount_0f7a4_36 ?_
  refine z_iushr (pc := 38) hG dJ6_bitCount_0f7a4_38 ?_
  refine z_iadd (pc := 39) hG dJ6_bitCount_0f7a4_39 ?_
  refine z_istore_n (pc := 40) (ls' := [(0, .int ((((((a0 - (((a0.toUInt32 >>> ((1 : Int32).toUInt32 &&& Int32.toUInt32 31)).toInt32) &&& (1431655765 : Int32))) &&& (858993459 : Int32)) + ((((a0 - (((a0.toUInt32 >>> ((1 : Int32).toUInt32 &&& Int32.toUInt32 31)).toInt32) &&& (1431655765 : Int32))).toUInt32 >>> ((2 : Int32).toUInt32 &&& Int32.toUInt32 31)).toInt32) &&& (858993459 : Int32))) + (((((a0 - (((a0.toUInt32 >>> ((1 : Int32).toUInt32 &&& Int32.toUInt32 31)).toInt32) &&& (1431655765 : Int32))) &&& (858993459 : Int32)) + ((((a0 - (((a0.toUInt32 >>> ((1 : Int32).toUInt32 &&& Int32.toUInt32 31)).toInt32) &&& (1431655765 : Int32))).toUInt32 >>> ((2 : Int32).toUInt32 &&& Int32.toUInt32 31)).toInt32) &&& (858993459 : Int32))).toUInt32 >>> ((4 : Int32).toUInt32 &&& Int32.toUInt32 31)).toInt32)) &&& (252645135 : Int32)) + (((((((a0 - (((a0.toUInt32 >>> ((1 : Int32).toUInt32 &&& Int32.toUInt32 31)).toInt32) &&& (1431655765 : Int32))) &&& (858993459 : Int32)) + ((((a0 - (((a0.toUInt32 >>> ((1 : Int32).toUInt32 &&& Int32.toUInt32 31)).toInt32) &&& (1431655765 : Int32))).toUInt32 >>> ((2 : Int32).toUInt32 &&& Int32.toUInt32 31)).toInt32) &&& (858993459 : Int32))) + (((((a0 - (((a0.toUInt32 >>> ((1 : Int32).toUInt32 &&& Int32.toUInt32 31)).toInt32) &&& (1431655765 : Int32))) &&& (858993459 : Int32)) + ((((a0 - (((a0.toUInt32 >>> ((1 : Int32).toUInt32 &&& Int32.toUInt32 31)).toInt32) &&& (1431655765 : Int32))).toUInt32 >>> ((2 : Int32).toUInt32 &&& Int32.toUInt32 31)).toInt32) &&& (858993459 : Int32))).toUInt32 >>> ((4 : Int32).toUInt32 &&& Int32.toUInt32 31)).toInt32)) &&& (252645135 : Int32)).toUInt32 >>> ((8 : Int32).toUInt32 &&& Int32.toUInt32 31)).toInt32)))]) hG [0] rfl (by decide) rfl dJ6_bitCount_0f7a4_40 ?_
  refine z_iload_n (pc := 41) hG 0 rfl rfl dJ6_bitCount_0f7a4_41 ?_
  refine z_iload_n (pc := 42) hG 0 rfl rfl dJ6_bitCount_0f7a4_42 ?_
  refine z_bipush (pc := 43) hG kb_16 dJ6_bitCount_0f7a4_43 ?_
  refine z_iushr (pc := 45) hG dJ6_bitCount_0f7a4_45 ?_
  refine z_iadd (pc := 46) hG dJ6_bitCount_0f7a4_46 ?_
  refine z_istore_n (pc := 47) (ls' := [(0, .int (((((((a0 - (((a0.toUInt32 >>> ((1 : Int32).toUInt32 &&& Int32.toUInt32 31)).toInt32) &&& (1431655765 : Int32))) &&& (858993459 : Int32)) + ((((a0 - (((a0.toUInt32 >>> ((1 : Int32).toUInt32 &&& Int32.toUInt32 31)).toInt32) &&& (1431655765 : Int32))).toUInt32 >>> ((2 : Int32).toUInt32 &&& Int32.toUInt32 31)).toInt32) &&& (858993459 : Int32))) + (((((a0 - (((a0.toUInt32 >>> ((1 : Int32).toUInt32 &&& Int32.toUInt32 31)).toInt32) &&& (1431655765 : Int32))) &&& (858993459 : Int32)) + ((((a0 - (((a0.toUInt32 >>> ((1 : Int32).toUInt32 &&& Int32.toUInt32 31)).toInt32) &&& (1431655765 : Int32))).toUInt32 >>> ((2 : Int32).toUInt32 &&& Int32.toUInt32 31)).toInt32) &&& (858993459 : Int32))).toUInt32 >>> ((4 : Int32).toUInt32 &&& Int32.toUInt32 31)).toInt32)) &&& (252645135 : Int32)) + (((((((a0 - (((a0.toUInt32 >>> ((1 : Int32).toUInt32 &&& Int32.toUInt32 31)).toInt32) &&& (1431655765 : Int32))) &&& (858993459 : Int32)) + ((((a0 - (((a0.toUInt32 >>> ((1 : Int32).toUInt32 &&& Int32.toUInt32 31)).toInt32) &&& (1431655765 : Int32))).toUInt32 >>> ((2 : Int32).toUInt32 &&& Int32.toUInt32 31)).toInt32) &&& (858993459 : Int32))) + (((((a0 - (((a0.toUInt32 >>> ((1 : Int32).toUInt32 &&& Int32.toUInt32 31)).toInt32) &&& (1431655765 : Int32))) &&& (858993459 : Int32)) + ((((a0 - (((a0.toUInt32 >>> ((1 : Int32).toUInt32 &&& Int32.toUInt32 31)).toInt32) &&& (1431655765 : Int32))).toUInt32 >>> ((2 : Int32).toUInt32 &&& Int32.toUInt32 31)).toInt32) &&& (858993459 : Int32))).toUInt32 >>> ((4 : Int32).toUInt32 &&& Int32.toUInt32 31)).toInt32)) &&& (252645135 : Int32)).toUInt32 >>> ((8 : Int32).toUInt32 &&& Int32.toUInt32 31)).toInt32)) + ((((((((a0 - (((a0.toUInt32 >>> ((1 : Int32).toUInt32 &&& Int32.toUInt32 31)).toInt32) &&& (1431655765 : Int32))) &&& (858993459 : Int32)) + ((((a0 - (((a0.toUInt32 >>> ((1 : Int32).toUInt32 &&& Int32.toUInt32 31)).toInt32) &&& (1431655765 : Int32))).toUInt32 >>> ((2 : Int32).toUInt32 &&& Int32.toUInt32 31)).toInt32) &&& (858993459 : Int32))) + (((((a0 - (((a0.toUInt32 >>> ((1 : Int32).toUInt32 &&& Int32.toUInt32 31)).toInt32) &&& (1431655765 : Int32))) &&& (858993459 : Int32)) + ((((a0 - (((a0.toUInt32 >>> ((1 : Int32).toUInt32 &&& Int32.toUInt32 31)).toInt32) &&& (1431655765 : Int32))).toUInt32 >>> ((2 : Int32).toUInt32 &&& Int32.toUInt32 31)).toInt32) &&& (858993459 : Int32))).toUInt32 >>> ((4 : Int32).toUInt32 &&& Int32.toUInt32 31)).toInt32)) &&& (252645135 : Int32)) + (((((((a0 - (((a0.toUInt32 >>> ((1 : Int32).toUInt32 &&& Int32.toUInt32 31)).toInt32) &&& (1431655765 : Int32))) &&& (858993459 : Int32)) + ((((a0 - (((a0.toUInt32 >>> ((1 : Int32).toUInt32 &&& Int32.toUInt32 31)).toInt32) &&& (1431655765 : Int32))).toUInt32 >>> ((2 : Int32).toUInt32 &&& Int32.toUInt32 31)).toInt32) &&& (858993459 : Int32))) + (((((a0 - (((a0.toUInt32 >>> ((1 : Int32).toUInt32 &&& Int32.toUInt32 31)).toInt32) &&& (1431655765 : Int32))) &&& (858993459 : Int32)) + ((((a0 - (((a0.toUInt32 >>> ((1 : Int32).toUInt32 &&& Int32.toUInt32 31)).toInt32) &&& (1431655765 : Int32))).toUInt32 >>> ((2 : Int32).toUInt32 &&& Int32.toUInt32 31)).toInt32) &&& (858993459 : Int32))).toUInt32 >>> ((4 : Int32).toUInt32 &&& Int32.toUInt32 31)).toInt32)) &&& (252645135 : Int32)).toUInt32 >>> ((8 : Int32).toUInt32 &&& Int32.toUInt32 31)).toInt32)).toUInt32 >>> ((16 : Int32).toUInt32 &&& Int32.toUInt32 31)).toInt32)))]) hG [0] rfl (by decide) rfl dJ6_bitCount_0f7a4_47 ?_
  refine z_iload_n (pc := 48) hG 0 rfl rfl dJ6_bitCount_0f7a4_48 ?_
  refine z_bipush (pc := 49) hG kb_63 dJ6_bitCount_0f7a4_49 ?_
  refine z_iand (pc := 51) hG dJ6_bitCount_0f7a4_51 ?_
  obtain rfl := Option.some.inj h
  exact z_iret (pc := 52) hG rfl rfl hk dJ6_bitCount_0f7a4_52
noncomputable def nX5_isLess (a1 : Int32) (a2 : Int32) (g : zS) : Option Int32 :=
  (nX6_weightOf a1 g).bind fun v1 => (nX6_weightOf a2 g).bind fun v2 => if v1 < v2 then (some ((1 : Int32))) else (if v1 = v2 then ((nJ6_bitCount_0f7a4 a1).bind fun v3 => (nJ6_bitCount_0f7a4 a2).bind fun v4 => if v4 ≤ v3 then (some ((0 : Int32))) else (some ((1 : Int32)))) else (some ((0 : Int32))))
set_option maxHeartbeats 60000 in
theorem tX5_isLess {l : Launch} (hl0 : l.flags = flags0) (a1 : Int32) (a2 : Int32) (g : zS) {r : Int32} (h : nX5_isLess a1 a2 g = some r) : zC l yX5_isLess cX5_isLess 5 ((Option.some Jvm.ClassFile.FieldType.boolean)) 1 0 0 [.ref 20, .int a1, .int a2] zD g (.inl (some (.int r)), zD, g) := by
  refine zC_of hl0 rfl (Nat.le_of_ble_eq_true rfl) (fun x hG hxl hk _ => ?_)
  subst hxl
  show zK x 1 0 [(0, .ref 20), (1, .int a1), (2, .int a2)] [] zD g 0 0
  unfold nX5_isLess at h
  refine z_aload_n (pc := 0) hG 0 rfl rfl dX5_isLess_0 ?_
  refine z_getr (pc := 1) hG zc_X5 inX5 DL_20 0 rfl (by decide) rfl w619 dX5_isLess_1 ?_
  refine z_iload_n (pc := 4) hG 1 rfl rfl dX5_isLess_4 ?_
  replace h := zbind h
  obtain ⟨v1, hv1, h⟩ := h
  refine z_cvI (pc := 5) (A' := 0) (B' := 0) hG [.int a1] [] zc_X6 DL_3 (tX6_weightOf hl0 a1 g hv1) zy_X6_weightOf ⟨w362, w363⟩ w361 dX5_isLess_5 rfl (Nat.le_of_ble_eq_true rfl) rfl rfl rfl (Nat.le_of_ble_eq_true rfl) rfl ?_
  refine z_istore_n (pc := 8) (ls' := [(3, .int v1), (0, .ref 20), (1, .int a1), (2, .int a2)]) hG [0, 1, 2, 3] rfl (by decide) rfl dX5_isLess_8 ?_
  refine z_aload_n (pc := 9) hG 1 rfl rfl dX5_isLess_9 ?_
  refine z_getr (pc := 10) hG zc_X5 inX5 DL_20 0 rfl (by decide) rfl w619 dX5_isLess_10 ?_
  refine z_iload_n (pc := 13) hG 3 rfl rfl dX5_isLess_13 ?_
  replace h := zbind h
  obtain ⟨v2, hv2, h⟩ := h
  refine z_cvI (pc := 14) (A' := 0) (B' := 0) hG [.int a2] [] zc_X6 DL_3 (tX6_weightOf hl0 a2 g hv2) zy_X6_weightOf ⟨w362, w363⟩ w361 dX5_isLess_14 rfl (Nat.le_of_ble_eq_true rfl) rfl rfl rfl (Nat.le_of_ble_eq_true rfl) rfl ?_
  refine z_istore (pc := 17) (ls' := [(4, .int v2), (3, .int v1), (0, .ref 20), (1, .int a1), (2, .int a2)]) hG [0, 1, 2, 3, 4] (by decide) rfl dX5_isLess_17 ?_
  refine z_iload_n (pc := 19) hG 1 rfl rfl dX5_isLess_19 ?_
  refine z_iload (pc := 20) hG 0 rfl dX5_isLess_20 ?_
  refine z_icmp_lt (pc := 22) (tgt := 42) hG dX5_isLess_22 rfl (fun hc => ?_) (fun hc => ?_)
  · replace h := zif_t hc h
    refine z_iconst (pc := 42) hG kc_1 dX5_isLess_42 ?_
    refine z_goto (pc := 43) (tgt := 47) hG dX5_isLess_43 rfl ?_
    obtain rfl := Option.some.inj h
    exact z_iret (pc := 47) hG rfl rfl hk dX5_isLess_47
  · replace h := zif_f hc h
    refine z_iload_n (pc := 25) hG 1 rfl rfl dX5_isLess_25 ?_
    refine z_iload (pc := 26) hG 0 rfl dX5_isLess_26 ?_
    refine z_icmp_ne (pc := 28) (tgt := 46) hG dX5_isLess_28 rfl (fun hc => ?_) (fun hc => ?_)
    · replace h := zif_f hc h
      refine z_iconst (pc := 46) hG kc_0 dX5_isLess_46 ?_
      obtain rfl := Option.some.inj h
      exact z_iret (pc := 47) hG rfl rfl hk dX5_isLess_47
    · replace h := zif_t hc h
      refine z_iload_n (pc := 31) hG 3 rfl rfl dX5_isLess_31 ?_
      replace h := zbind h
      obtain ⟨v3, hv3, h⟩ := h
      refine z_csI (pc := 32) (A' := 0) (B' := 0) hG [.int a1] [] (tJ6_bitCount_0f7a4 hl0 a1 g hv3) zy_J6_bitCount_0f7a4 w400 w399 dX5_isLess_32 rfl (Nat.le_of_ble_eq_true rfl) rfl rfl rfl (Nat.le_of_ble_eq_true rfl) rfl ?_
      refine z_iload_n (pc := 35) hG 4 rfl rfl dX5_isLess_35 ?_
      replace h := zbind h
      obtain ⟨v4, hv4, h⟩ := h
      refine z_csI (pc := 36) (A' := 0) (B' := 0) hG [.int a2] [.int v3] (tJ6_bitCount_0f7a4 hl0 a2 g hv4) zy_J6_bitCount_0f7a4 w400 w399 dX5_isLess_36 rfl (Nat.le_of_ble_eq_true rfl) rfl rfl rfl (Nat.le_of_ble_eq_true rfl) rfl ?_
      refine z_icmp_ge (pc := 39) (tgt := 46) hG dX5_isLess_39 rfl (fun hc => ?_) (fun hc => ?_)
      · replace h := zif_t hc h
        refine z_iconst (pc := 46) hG kc_0 dX5_isLess_46 ?_
        obtain rfl := Option.some.inj h
        exact z_iret (pc := 47) hG rfl rfl hk dX5_isLess_47
      · replace h := zif_f hc h
        refine z_iconst (pc := 42) hG kc_1 dX5_isLess_42 ?_
        refine z_goto (pc := 43) (tgt := 47) hG dX5_isLess_43 rfl ?_
        obtain rfl := Option.some.inj h
        exact z_iret (pc := 47) hG rfl rfl hk dX5_isLess_47
noncomputable def wX5_sortSets_15 (a1 : Int32) (s : (Int32 × zS)) : Option ((Int32 × zS) ⊕ ((Int32 × zS) ⊕ zS)) :=
  if s.1 ≤ 0 then (zex (zchk (zin s.1 32) (some (.inl ((a1 + (1 : Int32)), (zi s.2 22 s.1.toNatClampNeg a1)))))) else (zchk (zin (s.1 - (1 : Int32)) 32) ((nX5_isLess a1 (s.2.1 22 (s.1 - (1 : Int32)).toNatClampNeg) s.2).bind fun v2 => if v2 = 0 then (zex (zchk (zin s.1 32) (some (.inl ((a1 + (1 : Int32)), (zi s.2 22 s.1.toNatClampNeg a1)))))) else (zchk (zin (s.1 - (1 : Int32)) 32) (zchk (zin s.1 32) (some (.inl ((s.1 + (-1 : Int32)), (zi s.2 22 s.1.toNatClampNeg (s.2.1 22 (s.1 - (1 : Int32)).toNatClampNeg)))))))))
noncomputable def wX5_sortSets_2  (s : (Int32 × zS)) : Option ((Int32 × zS) ⊕ zS) :=
  (nX6_allFields s.2).bind fun v1 => if v1 < s.1 then (zex (some (s.2))) else (wh (wX5_sortSets_15 s.1) (s.1, s.2))
noncomputable def nX5_sortSets (g : zS) : Option zS :=
  wh (wX5_sortSets_2 ) ((0 : Int32), g)
def qX5_sortSets_2 (x : zXx)  (o : (Int32 × zS) ⊕ zS) : Prop := match o with
  | .inl s => zK x 2 2 [(0, .ref 20), (1, .int s.1)] [] zD s.2 0 0
  | .inr r => ztg x = (.inl none, zD, r)
def qX5_sortSets_15 (x : zXx) (a1 : Int32) (o : (Int32 × zS) ⊕ ((Int32 × zS) ⊕ zS)) : Prop := match o with
  | .inl s => zK x 2 15 [(0, .ref 20), (1, .int a1), (2, .int s.1)] [] zD s.2 0 0
  | .inr r => qX5_sortSets_2 x  r
set_option maxHeartbeats 60000 in
theorem kwX5_sortSets_15 {x : zXx} (hG : zG x cX5_sortSets 3 RX5 ((Option.none : Option Jvm.ClassFile.FieldType))) (hl0 : (zl0 x).flags = flags0) (a1 : Int32) {o : ((Int32 × zS) ⊕ zS)} (hk : qX5_sortSets_2 x  o) : ∀ s : (Int32 × zS), wh (wX5_sortSets_15 a1) s = some o → zK x 2 15 [(0, .ref 20), (1, .int a1), (2, .int s.1)] [] zD s.2 0 0 := by
  refine wh_ind (fun s : (Int32 × zS) => zK x 2 15 [(0, .ref 20), (1, .int a1), (2, .int s.1)] [] zD s.2 0 0) (fun s o h hk2 => ?_)
  replace hk : qX5_sortSets_15 x a1 o := by
    cases o with
    | inl s => exact hk2
    | inr r => subst hk2; exact hk
  clear hk2
  unfold wX5_sortSets_15 at h
  refine z_iload_n (pc := 15) hG 2 rfl rfl dX5_sortSets_15 ?_
  refine z_if_le (pc := 16) (tgt := 55) hG dX5_sortSets_16 rfl (fun hc => ?_) (fun hc => ?_)
  · replace h := zif_t hc h
    replace h := zex_some h
    obtain ⟨o, h, rfl⟩ := h
    refine z_aload_n (pc := 55) hG 0 rfl rfl dX5_sortSets_55 ?_
    refine z_getr (pc := 56) hG zc_X5 inX5 DL_20 2 rfl (by decide) rfl w621 dX5_sortSets_56 ?_
    refine z_iload_n (pc := 59) hG 2 rfl rfl dX5_sortSets_59 ?_
    refine z_iload_n (pc := 60) hG 1 rfl rfl dX5_sortSets_60 ?_
    replace h := zchk_some h
    obtain ⟨hc, h⟩ := h
    refine z_iast (pc := 61) hG DL_22 (zin_in hc) dX5_sortSets_61 ?_
    refine z_iinc (pc := 62) (ls' := [(1, .int (a1 + (1 : Int32))), (0, .ref 20), (2, .int s.1)]) hG 1 rfl [0, 1, 2] (ki_1 _) (by decide) rfl dX5_sortSets_62 ?_
    refine z_goto (pc := 65) (tgt := 2) hG dX5_sortSets_65 rfl ?_
    obtain rfl := Option.some.inj h
    refine z_sub (ls' := [(0, .ref 20), (1, .int (a1 + (1 : Int32)))]) [1, 0] rfl ?_
    exact hk
  · replace h := zif_f hc h
    refine z_aload_n (pc := 19) hG 0 rfl rfl dX5_sortSets_19 ?_
    refine z_iload_n (pc := 20) hG 1 rfl rfl dX5_sortSets_20 ?_
    refine z_aload_n (pc := 21) hG 0 rfl rfl dX5_sortSets_21 ?_
    refine z_getr (pc := 22) hG zc_X5 inX5 DL_20 2 rfl (by decide) rfl w621 dX5_sortSets_22 ?_
    refine z_iload_n (pc := 25) hG 2 rfl rfl dX5_sortSets_25 ?_
    refine z_iconst (pc := 26) hG kc_1 dX5_sortSets_26 ?_
    refine z_isub (pc := 27) hG dX5_sortSets_27 ?_
    replace h := zchk_some h
    obtain ⟨hc, h⟩ := h
    refine z_iald (pc := 28) hG DL_22 (zin_in hc) dX5_sortSets_28 ?_
    replace h := zbind h
    obtain ⟨v2, hv2, h⟩ := h
    refine z_cvI (pc := 29) (A' := 0) (B' := 0) hG [.int a1, .int (s.2.1 22 (s.1 - (1 : Int32)).toNatClampNeg)] [] zc_X5 DL_20 (tX5_isLess hl0 a1 (s.2.1 22 (s.1 - (1 : Int32)).toNatClampNeg) s.2 hv2) zy_X5_isLess ⟨w1238, wp42⟩ w1236 dX5_sortSets_29 rfl (Nat.le_of_ble_eq_true rfl) rfl rfl rfl (Nat.le_of_ble_eq_true rfl) rfl ?_
    refine z_if_eq (pc := 32) (tgt := 55) hG dX5_sortSets_32 rfl (fun hc => ?_) (fun hc => ?_)
    · replace h := zif_t hc h
      replace h := zex_some h
      obtain ⟨o, h, rfl⟩ := h
      refine z_aload_n (pc := 55) hG 0 rfl rfl dX5_sortSets_55 ?_
      refine z_getr (pc := 56) hG zc_X5 inX5 DL_20 2 rfl (by decide) rfl w621 dX5_sortSets_56 ?_
      refine z_iload_n (pc := 59) hG 2 rfl rfl dX5_sortSets_59 ?_
      refine z_iload_n (pc := 60) hG 1 rfl rfl dX5_sortSets_60 ?_
      replace h := zchk_some h
      obtain ⟨hc, h⟩ := h
      refine z_iast (pc := 61) hG DL_22 (zin_in hc) dX5_sortSets_61 ?_
      refine z_iinc (pc := 62) (ls' := [(1, .int (a1 + (1 : Int32))), (0, .ref 20), (2, .int s.1)]) hG 1 rfl [0, 1, 2] (ki_1 _) (by decide) rfl dX5_sortSets_62 ?_
      refine z_goto (pc := 65) (tgt := 2) hG dX5_sortSets_65 rfl ?_
      obtain rfl := Option.some.inj h
      refine z_sub (ls' := [(0, .ref 20), (1, .int (a1 + (1 : Int32)))]) [1, 0] rfl ?_
      exact hk
    · replace h := zif_f hc h
      refine z_aload_n (pc := 35) hG 0 rfl rfl dX5_sortSets_35 ?_
      refine z_getr (pc := 36) hG zc_X5 inX5 DL_20 2 rfl (by decide) rfl w621 dX5_sortSets_36 ?_
      refine z_iload_n (pc := 39) hG 2 rfl rfl dX5_sortSets_39 ?_
      refine z_aload_n (pc := 40) hG 0 rfl rfl dX5_sortSets_40 ?_
      refine z_getr (pc := 41) hG zc_X5 inX5 DL_20 2 rfl (by decide) rfl w621 dX5_sortSets_41 ?_
      refine z_iload_n (pc := 44) hG 2 rfl rfl dX5_sortSets_44 ?_
      refine z_iconst (pc := 45) hG kc_1 dX5_sortSets_45 ?_
      refine z_isub (pc := 46) hG dX5_sortSets_46 ?_
      replace h := zchk_some h
      obtain ⟨hc, h⟩ := h
      refine z_iald (pc := 47) hG DL_22 (zin_in hc) dX5_sortSets_47 ?_
      replace h := zchk_some h
      obtain ⟨hc, h⟩ := h
      refine z_iast (pc := 48) hG DL_22 (zin_in hc) dX5_sortSets_48 ?_
      refine z_iinc (pc := 49) (ls' := [(2, .int (s.1 + (-1 : Int32))), (0, .ref 20), (1, .int a1)]) hG 2 rfl [0, 1, 2] (ki_m1 _) (by decide) rfl dX5_sortSets_49 ?_
      refine z_goto (pc := 52) (tgt := 15) hG dX5_sortSets_52 rfl ?_
      obtain rfl := Option.some.inj h
      refine z_sub (ls' := [(0, .ref 20), (1, .int a1), (2, .int (s.1 + (-1 : Int32)))]) [1, 2, 0] rfl ?_
      exact hk
set_option maxHeartbeats 60000 in
theorem kwX5_sortSets_2 {x : zXx} (hG : zG x cX5_sortSets 3 RX5 ((Option.none : Option Jvm.ClassFile.FieldType))) (hl0 : (zl0 x).flags = flags0)  {o : zS} (hk : ztg x = (.inl none, zD, o)) : ∀ s : (Int32 × zS), wh (wX5_sortSets_2 ) s = some o → zK x 2 2 [(0, .ref 20), (1, .int s.1)] [] zD s.2 0 0 := by
  refine wh_ind (fun s : (Int32 × zS) => zK x 2 2 [(0, .ref 20), (1, .int s.1)] [] zD s.2 0 0) (fun s o h hk2 => ?_)
  replace hk : qX5_sortSets_2 x  o := by
    cases o with
    | inl s => exact hk2
    | inr r => subst hk2; exact hk
  clear hk2
  unfold wX5_sortSets_2 at h
  refine z_iload_n (pc := 2) hG 1 rfl rfl dX5_sortSets_2 ?_
  refine z_aload_n (pc := 3) hG 0 rfl rfl dX5_sortSets_3 ?_
  refine z_getr (pc := 4) hG zc_X5 inX5 DL_20 0 rfl (by decide) rfl w619 dX5_sortSets_4 ?_
  replace h := zbind h
  obtain ⟨v1, hv1, h⟩ := h
  refine z_cvI (pc := 7) (A' := 0) (B' := 0) hG [] [.int s.1] zc_X6 DL_3 (tX6_allFields hl0  s.2 hv1) zy_X6_allFields ⟨w316, w317⟩ w355 dX5_sortSets_7 rfl (Nat.le_of_ble_eq_true rfl) rfl rfl rfl (Nat.le_of_ble_eq_true rfl) rfl ?_
  refine z_icmp_gt (pc := 10) (tgt := 68) hG dX5_sortSets_10 rfl (fun hc => ?_) (fun hc => ?_)
  · replace h := zif_t hc h
    replace h := zex_some h
    obtain ⟨o, h, rfl⟩ := h
    obtain rfl := Option.some.inj h
    exact z_vret (pc := 68) hG rfl hk dX5_sortSets_68
  · replace h := zif_f hc h
    refine z_iload_n (pc := 13) hG 1 rfl rfl dX5_sortSets_13 ?_
    refine z_istore_n (pc := 14) (ls' := [(2, .int s.1), (0, .ref 20), (1, .int s.1)]) hG [0, 1, 2] rfl (by decide) rfl dX5_sortSets_14 ?_
    refine z_sub (ls' := [(0, .ref 20), (1, .int s.1), (2, .int s.1)]) [1, 2, 0] rfl ?_
    exact kwX5_sortSets_15 hG hl0 s.1 hk (s.1, s.2) h
set_option maxHeartbeats 60000 in
theorem tX5_sortSets {l : Launch} (hl0 : l.flags = flags0) (g : zS) {r : zS} (h : nX5_sortSets g = some r) : zC l yX5_sortSets cX5_sortSets 3 ((Option.none : Option Jvm.ClassFile.FieldType)) 2 0 0 [.ref 20] zD g (.inl none, zD, r) := by
  refine zC_of hl0 rfl (Nat.le_of_ble_eq_true rfl) (fun x hG hxl hk _ => ?_)
  subst hxl
  show zK x 2 0 [(0, .ref 20)] [] zD g 0 0
  unfold nX5_sortSets at h
  refine z_iconst (pc := 0) hG kc_0 dX5_sortSets_0 ?_
  refine z_istore_n (pc := 1) (ls' := [(1, .int (0 : Int32)), (0, .ref 20)]) hG [0, 1] rfl (by decide) rfl dX5_sortSets_1 ?_
  refine z_sub (ls' := [(0, .ref 20), (1, .int (0 : Int32))]) [1, 0] rfl ?_
  exact kwX5_sortSets_2 hG hl0  hk ((0 : Int32), g) h
noncomputable def nX6_allEdits (g : zS) : Option Int32 :=
  some ((((1 : Int32) <<< ((g.1 3 7) &&& 31)) - (1 : Int32)))
set_option maxHeartbeats 60000 in
theorem tX6_allEdits {l : Launch} (hl0 : l.flags = flags0) (g : zS) {r : Int32} (h : nX6_allEdits g = some r) : zC l yX6_allEdits cX6_allEdits 1 ((Option.some Jvm.ClassFile.FieldType.int)) 0 0 0 [.ref 3] zD g (.inl (some (.int r)), zD, g) := by
  refine zC_of hl0 rfl (Nat.le_of_ble_eq_true rfl) (fun x hG hxl hk _ => ?_)
  subst hxl
  show zK x 0 0 [(0, .ref 3)] [] zD g 0 0
  unfold nX6_allEdits at h
  refine z_iconst (pc := 0) hG kc_1 dX6_allEdits_0 ?_
  refine z_aload_n (pc := 1) hG 0 rfl rfl dX6_allEdits_1 ?_
  refine z_geti (pc := 2) hG zc_X6 inX6 DL_3 7 rfl (by decide) rfl w557 dX6_allEdits_2 ?_
  refine z_ishl (pc := 5) hG dX6_allEdits_5 ?_
  refine z_iconst (pc := 6) hG kc_1 dX6_allEdits_6 ?_
  refine z_isub (pc := 7) hG dX6_allEdits_7 ?_
  obtain rfl := Option.some.inj h
  exact z_iret (pc := 8) hG rfl rfl hk dX6_allEdits_8
noncomputable def wJ7_fill_53178_5 (c : Nat) (cn : Nat) (a1 : Int32) (a3 : Int32) (s : (Int32 × zS)) : Option ((Int32 × zS) ⊕ zS) :=
  if a3 ≤ s.1 then (zex (some (s.2))) else (zchk (zin s.1 cn) (some (.inl ((s.1 + (1 : Int32)), (zi s.2 c s.1.toNatClampNeg a1)))))
noncomputable def nJ7_fill_53178 (c : Nat) (cn : Nat) (a1 : Int32) (g : zS) : Option zS :=
  wh (wJ7_fill_53178_5 c cn a1 (nI cn)) ((0 : Int32), g)
def qJ7_fill_53178_5 (x : zXx) (c : Nat) (cn : Nat) (a1 : Int32) (a3 : Int32) (o : (Int32 × zS) ⊕ zS) : Prop := match o with
  | .inl s => zK x 0 5 [(0, .ref c), (1, .int a1), (2, .int s.1), (3, .int a3)] [] zD s.2 0 0
  | .inr r => ztg x = (.inl none, zD, r)
set_option maxHeartbeats 60000 in
theorem kwJ7_fill_53178_5 {x : zXx} (hG : zG x cJ7_fill_53178 4 RJ7 ((Option.none : Option Jvm.ClassFile.FieldType))) (hl0 : (zl0 x).flags = flags0) (c : Nat) (cn : Nat) (a1 : Int32) (a3 : Int32) (hc0 : zD[c]? = some (.inr (0, cn))) {o : zS} (hk : ztg x = (.inl none, zD, o)) : ∀ s : (Int32 × zS), wh (wJ7_fill_53178_5 c cn a1 a3) s = some o → zK x 0 5 [(0, .ref c), (1, .int a1), (2, .int s.1), (3, .int a3)] [] zD s.2 0 0 := by
  refine wh_ind (fun s : (Int32 × zS) => zK x 0 5 [(0, .ref c), (1, .int a1), (2, .int s.1), (3, .int a3)] [] zD s.2 0 0) (fun s o h hk2 => ?_)
  replace hk : qJ7_fill_53178_5 x c cn a1 a3 o := by
    cases o with
    | inl s => exact hk2
    | inr r => subst hk2; exact hk
  clear hk2
  unfold wJ7_fill_53178_5 at h
  refine z_iload_n (pc := 5) hG 2 rfl rfl dJ7_fill_53178_5 ?_
  refine z_iload_n (pc := 6) hG 3 rfl rfl dJ7_fill_53178_6 ?_
  refine z_icmp_ge (pc := 7) (tgt := 20) hG dJ7_fill_53178_7 rfl (fun hc => ?_) (fun hc => ?_)
  · replace h := zif_t hc h
    replace h := zex_some h
    obtain ⟨o, h, rfl⟩ := h
    obtain rfl := Option.some.inj h
    exact z_vret (pc := 20) hG rfl hk dJ7_fill_53178_20
  · replace h := zif_f hc h
    refine z_aload_n (pc := 10) hG 0 rfl rfl dJ7_fill_53178_10 ?_
    refine z_iload_n (pc := 11) hG 2 rfl rfl dJ7_fill_53178_11 ?_
    refine z_iload_n (pc := 12) hG 1 rfl rfl dJ7_fill_53178_12 ?_
    replace h := zchk_some h
    obtain ⟨hc, h⟩ := h
    refine z_iast (pc := 13) hG hc0 (zin_in hc) dJ7_fill_53178_13 ?_
    refine z_iinc (pc := 14) (ls' := [(2, .int (s.1 + (1 : Int32))), (0, .ref c), (1, .int a1), (3, .int a3)]) hG 2 rfl [0, 1, 2, 3] (ki_1 _) (by decide) rfl dJ7_fill_53178_14 ?_
    refine z_goto (pc := 17) (tgt := 5) hG dJ7_fill_53178_17 rfl ?_
    obtain rfl := Option.some.inj h
    refine z_sub (ls' := [(0, .ref c), (1, .int a1), (2, .int (s.1 + (1 : Int32))), (3, .int a3)]) [1, 2, 0, 3] rfl ?_
    exact hk
set_option maxHeartbeats 60000 in
theorem tJ7_fill_53178 {l : Launch} (hl0 : l.flags = flags0) (c : Nat) (cn : Nat) (a1 : Int32) (hc0 : zD[c]? = some (.inr (0, cn))) (g : zS) {r : zS} (h : nJ7_fill_53178 c cn a1 g = some r) : zC l yJ7_fill_53178 cJ7_fill_53178 4 ((Option.none : Option Jvm.ClassFile.FieldType)) 0 0 0 [.ref c, .int a1] zD g (.inl none, zD, r) := by
  refine zC_of hl0 rfl (Nat.le_of_ble_eq_true rfl) (fun x hG hxl hk _ => ?_)
  subst hxl
  show zK x 0 0 [(0, .ref c), (1, .int a1)] [] zD g 0 0
  unfold nJ7_fill_53178 at h
  refine z_iconst (pc := 0) hG kc_0 dJ7_fill_53178_0 ?_
  refine z_istore_n (pc := 1) (ls' := [(2, .int (0 : Int32)), (0, .ref c), (1, .int a1)]) hG [0, 1, 2] rfl (by decide) rfl dJ7_fill_53178_1 ?_
  refine z_aload_n (pc := 2) hG 1 rfl rfl dJ7_fill_53178_2 ?_
  refine z_alen (pc := 3) hG hc0 dJ7_fill_53178_3 ?_
  refine z_istore_n (pc := 4) (ls' := [(3, .int (nI cn)), (2, .int (0 : Int32)), (0, .ref c), (1, .int a1)]) hG [0, 1, 2, 3] rfl (by decide) rfl dJ7_fill_53178_4 ?_
  refine z_sub (ls' := [(0, .ref c), (1, .int a1), (2, .int (0 : Int32)), (3, .int (nI cn))]) [2, 3, 1, 0] rfl ?_
  exact kwJ7_fill_53178_5 hG hl0 c cn a1 (nI cn) hc0 hk ((0 : Int32), g) h
noncomputable def nX5_editsOfAnswer (a1 : Int32) (a2 : Int32) (g : zS) : Option Int32 :=
  zchk (zin (((a1 * (6 : Int32)) + (1 : Int32)) + a2) 30) (some ((g.1 21 (((a1 * (6 : Int32)) + (1 : Int32)) + a2).toNatClampNeg)))
set_option maxHeartbeats 60000 in
theorem tX5_editsOfAnswer {l : Launch} (hl0 : l.flags = flags0) (a1 : Int32) (a2 : Int32) (g : zS) {r : Int32} (h : nX5_editsOfAnswer a1 a2 g = some r) : zC l yX5_editsOfAnswer cX5_editsOfAnswer 3 ((Option.some Jvm.ClassFile.FieldType.int)) 0 0 0 [.ref 20, .int a1, .int a2] zD g (.inl (some (.int r)), zD, g) := by
  refine zC_of hl0 rfl (Nat.le_of_ble_eq_true rfl) (fun x hG hxl hk _ => ?_)
  subst hxl
  show zK x 0 0 [(0, .ref 20), (1, .int a1), (2, .int a2)] [] zD g 0 0
  unfold nX5_editsOfAnswer at h
  refine z_aload_n (pc := 0) hG 0 rfl rfl dX5_editsOfAnswer_0 ?_
  refine z_getr (pc := 1) hG zc_X5 inX5 DL_20 1 rfl (by decide) rfl w620 dX5_editsOfAnswer_1 ?_
  refine z_iload_n (pc := 4) hG 1 rfl rfl dX5_editsOfAnswer_4 ?_
  refine z_bipush (pc := 5) hG kb_6 dX5_editsOfAnswer_5 ?_
  refine z_imul (pc := 7) hG dX5_editsOfAnswer_7 ?_
  refine z_iconst (pc := 8) hG kc_1 dX5_editsOfAnswer_8 ?_
  refine z_iadd (pc := 9) hG dX5_editsOfAnswer_9 ?_
  refine z_iload_n (pc := 10) hG 2 rfl rfl dX5_editsOfAnswer_10 ?_
  refine z_iadd (pc := 11) hG dX5_editsOfAnswer_11 ?_
  replace h := zchk_some h
  obtain ⟨hc, h⟩ := h
  refine z_iald (pc := 12) hG DL_21 (zin_in hc) dX5_editsOfAnswer_12 ?_
  obtain rfl := Option.some.inj h
  exact z_iret (pc := 13) hG rfl rfl hk dX5_editsOfAnswer_13
noncomputable def wX5_tallyField_27 (a1 : Int32) (a2 : Int32) (s : (Int32 × zS)) : Option ((Int32 × zS) ⊕ ((Int32 × zS) ⊕ zS)) :=
  zchk (zin a1 5) (if (s.2.1 4 a1.toNatClampNeg) ≤ s.1 then (zex (some (.inl ((a2 + (1 : Int32)), s.2)))) else ((nX5_editsOfAnswer a1 s.1 s.2).bind fun v2 => zchk (zin (a2 &&& v2) 64) (zchk (zin a2 64) (zchk (zin (a2 &&& v2) 64) (some (.inl ((s.1 + (1 : Int32)), (zi s.2 (zsp s.2 1) (a2 &&& v2).toNatClampNeg ((s.2.1 (zsp s.2 1) (a2 &&& v2).toNatClampNeg) + (s.2.1 (zsp s.2 0) a2.toNatClampNeg))))))))))
noncomputable def wX5_tallyField_10 (a1 : Int32) (s : (Int32 × zS)) : Option ((Int32 × zS) ⊕ zS) :=
  if (64 : Int32) ≤ s.1 then (zex (zchk (decide (s.2.2.2.1 ≤ 1)) (some ((zsw s.2))))) else (zchk (zin s.1 64) (if (s.2.1 (zsp s.2 0) s.1.toNatClampNeg) = 0 then (some (.inl ((s.1 + (1 : Int32)), s.2))) else (wh (wX5_tallyField_27 a1 s.1) ((0 : Int32), s.2))))
noncomputable def nX5_tallyField (a1 : Int32) (g : zS) : Option zS :=
  (nJ7_fill_53178 (zsp g 1) 64 (0 : Int32) g).bind fun v1 => wh (wX5_tallyField_10 a1) ((0 : Int32), v1)
def qX5_tallyField_10 (x : zXx) (a1 : Int32) (o : (Int32 × zS) ⊕ zS) : Prop := match o with
  | .inl s => zK x 1 10 [(0, .ref 20), (1, .int a1), (2, .int s.1)] [] zD s.2 0 0
  | .inr r => ztg x = (.inl none, zD, r)
def qX5_tallyField_27 (x : zXx) (a1 : Int32) (a2 : Int32) (o : (Int32 × zS) ⊕ ((Int32 × zS) ⊕ zS)) : Prop := match o with
  | .inl s => zK x 1 27 [(0, .ref 20), (1, .int a1), (2, .int a2), (3, .int s.1)] [] zD s.2 0 0
  | .inr r => qX5_tallyField_10 x a1 r
set_option maxHeartbeats 60000 in
theorem kwX5_tallyField_27 {x : zXx} (hG : zG x cX5_tallyField 4 RX5 ((Option.none : Option Jvm.ClassFile.FieldType))) (hl0 : (zl0 x).flags = flags0) (a1 : Int32) (a2 : Int32) {o : ((Int32 × zS) ⊕ zS)} (hk : qX5_tallyField_10 x a1 o) : ∀ s : (Int32 × zS), wh (wX5_tallyField_27 a1 a2) s = some o → zK x 1 27 [(0, .ref 20), (1, .int a1), (2, .int a2), (3, .int s.1)] [] zD s.2 0 0 := by
  refine wh_ind (fun s : (Int32 × zS) => zK x 1 27 [(0, .ref 20), (1, .int a1), (2, .int a2), (3, .int s.1)] [] zD s.2 0 0) (fun s o h hk2 => ?_)
  replace hk : qX5_tallyField_27 x a1 a2 o := by
    cases o with
    | inl s => exact hk2
    | inr r => subst hk2; exact hk
  clear hk2
  unfold wX5_tallyField_27 at h
  refine z_iload_n (pc := 27) hG 3 rfl rfl dX5_tallyField_27 ?_
  refine z_aload_n (pc := 28) hG 0 rfl rfl dX5_tallyField_28 ?_
  refine z_getr (pc := 29) hG zc_X5 inX5 DL_20 0 rfl (by decide) rfl w619 dX5_tallyField_29 ?_
  refine z_getr (pc := 32) hG zc_X6 inX6 DL_3 1 rfl (by decide) rfl w539 dX5_tallyField_32 ?_
  refine z_iload_n (pc := 35) hG 1 rfl rfl dX5_tallyField_35 ?_
  replace h := zchk_some h
  obtain ⟨hc, h⟩ := h
  refine z_iald (pc := 36) hG DL_4 (zin_in hc) dX5_tallyField_36 ?_
  refine z_icmp_ge (pc := 37) (tgt := 68) hG dX5_tallyField_37 rfl (fun hc => ?_) (fun hc => ?_)
  · replace h := zif_t hc h
    replace h := zex_some h
    obtain ⟨o, h, rfl⟩ := h
    refine z_iinc (pc := 68) (ls' := [(2, .int (a2 + (1 : Int32))), (0, .ref 20), (1, .int a1), (3, .int s.1)]) hG 2 rfl [0, 1, 2, 3] (ki_1 _) (by decide) rfl dX5_tallyField_68 ?_
    refine z_goto (pc := 71) (tgt := 10) hG dX5_tallyField_71 rfl ?_
    obtain rfl := Option.some.inj h
    refine z_sub (ls' := [(0, .ref 20), (1, .int a1), (2, .int (a2 + (1 : Int32)))]) [1, 2, 0] rfl ?_
    exact hk
  · replace h := zif_f hc h
    refine z_aload_n (pc := 40) hG 0 rfl rfl dX5_tallyField_40 ?_
    refine z_gets (pc := 41) hG zc_X5 inX5 DL_20 5 rfl (by decide) rfl w624 dX5_tallyField_41 ?_
    refine z_iload_n (pc := 44) hG 2 rfl rfl dX5_tallyField_44 ?_
    refine z_aload_n (pc := 45) hG 0 rfl rfl dX5_tallyField_45 ?_
    refine z_iload_n (pc := 46) hG 1 rfl rfl dX5_tallyField_46 ?_
    refine z_iload_n (pc := 47) hG 3 rfl rfl dX5_tallyField_47 ?_
    replace h := zbind h
    obtain ⟨v2, hv2, h⟩ := h
    refine z_cvI (pc := 48) (A' := 0) (B' := 0) hG [.int a1, .int s.1] [.int a2, .ref (zsp s.2 1)] zc_X5 DL_20 (tX5_editsOfAnswer hl0 a1 s.1 s.2 hv2) zy_X5_editsOfAnswer ⟨w145, w146⟩ w162 dX5_tallyField_48 rfl (Nat.le_of_ble_eq_true rfl) rfl rfl (by simp only [List.all_cons, zok_sp]; rfl) (Nat.le_of_ble_eq_true rfl) rfl ?_
    refine z_iand (pc := 51) hG dX5_tallyField_51 ?_
    refine z_dup2 (pc := 52) hG rfl rfl dX5_tallyField_52 ?_
    replace h := zchk_some h
    obtain ⟨hc, h⟩ := h
    refine z_iald (pc := 53) hG (zsp_dl1 s.2) (zin_in hc) dX5_tallyField_53 ?_
    refine z_aload_n (pc := 54) hG 0 rfl rfl dX5_tallyField_54 ?_
    refine z_gets (pc := 55) hG zc_X5 inX5 DL_20 4 rfl (by decide) rfl w623 dX5_tallyField_55 ?_
    refine z_iload_n (pc := 58) hG 2 rfl rfl dX5_tallyField_58 ?_
    replace h := zchk_some h
    obtain ⟨hc, h⟩ := h
    refine z_iald (pc := 59) hG (zsp_dl0 s.2) (zin_in hc) dX5_tallyField_59 ?_
    refine z_iadd (pc := 60) hG dX5_tallyField_60 ?_
    replace h := zchk_some h
    obtain ⟨hc, h⟩ := h
    refine z_iast (pc := 61) hG (zsp_dl1 s.2) (zin_in hc) dX5_tallyField_61 ?_
    refine z_iinc (pc := 62) (ls' := [(3, .int (s.1 + (1 : Int32))), (0, .ref 20), (1, .int a1), (2, .int a2)]) hG 3 rfl [0, 1, 2, 3] (ki_1 _) (by decide) rfl dX5_tallyField_62 ?_
    refine z_goto (pc := 65) (tgt := 27) hG dX5_tallyField_65 rfl ?_
    obtain rfl := Option.some.inj h
    refine z_sub (ls' := [(0, .ref 20), (1, .int a1), (2, .int a2), (3, .int (s.1 + (1 : Int32)))]) [1, 2, 3, 0] rfl ?_
    exact hk
set_option maxHeartbeats 60000 in
theorem kwX5_tallyField_10 {x : zXx} (hG : zG x cX5_tallyField 4 RX5 ((Option.none : Option Jvm.ClassFile.FieldType))) (hl0 : (zl0 x).flags = flags0) (a1 : Int32) {o : zS} (hk : ztg x = (.inl none, zD, o)) : ∀ s : (Int32 × zS), wh (wX5_tallyField_10 a1) s = some o → zK x 1 10 [(0, .ref 20), (1, .int a1), (2, .int s.1)] [] zD s.2 0 0 := by
  refine wh_ind (fun s : (Int32 × zS) => zK x 1 10 [(0, .ref 20), (1, .int a1), (2, .int s.1)] [] zD s.2 0 0) (fun s o h hk2 => ?_)
  replace hk : qX5_tallyField_10 x a1 o := by
    cases o with
    | inl s => exact hk2
    | inr r => subst hk2; exact hk
  clear hk2
  unfold wX5_tallyField_10 at h
  refine z_iload_n (pc := 10) hG 2 rfl rfl dX5_tallyField_10 ?_
  refine z_bipush (pc := 11) hG kb_64 dX5_tallyField_11 ?_
  refine z_icmp_ge (pc := 13) (tgt := 74) hG dX5_tallyField_13 rfl (fun hc => ?_) (fun hc => ?_)
  · replace h := zif_t hc h
    replace h := zex_some h
    obtain ⟨o, h, rfl⟩ := h
    refine z_aload_n (pc := 74) hG 0 rfl rfl dX5_tallyField_74 ?_
    refine z_gets (pc := 75) hG zc_X5 inX5 DL_20 4 rfl (by decide) rfl w623 dX5_tallyField_75 ?_
    refine z_astore_n (pc := 78) (ls' := [(2, .ref (zsp s.2 0)), (0, .ref 20), (1, .int a1)]) hG [0, 1, 2] rfl (by decide) rfl dX5_tallyField_78 ?_
    replace h := zchk_some h
    obtain ⟨hc, h⟩ := h
    refine z_swap (pc := 79) (k0 := 1) (k2 := 0) hG rfl rfl hc w623 w624 inX5 dX5_tallyField_79 dX5_tallyField_80 dX5_tallyField_81 dX5_tallyField_84 dX5_tallyField_87 dX5_tallyField_88 dX5_tallyField_89 ?_
    obtain rfl := Option.some.inj h
    exact z_vret (pc := 92) hG rfl hk dX5_tallyField_92
  · replace h := zif_f hc h
    refine z_aload_n (pc := 16) hG 0 rfl rfl dX5_tallyField_16 ?_
    refine z_gets (pc := 17) hG zc_X5 inX5 DL_20 4 rfl (by decide) rfl w623 dX5_tallyField_17 ?_
    refine z_iload_n (pc := 20) hG 2 rfl rfl dX5_tallyField_20 ?_
    replace h := zchk_some h
    obtain ⟨hc, h⟩ := h
    refine z_iald (pc := 21) hG (zsp_dl0 s.2) (zin_in hc) dX5_tallyField_21 ?_
    refine z_if_eq (pc := 22) (tgt := 68) hG dX5_tallyField_22 rfl (fun hc => ?_) (fun hc => ?_)
    · replace h := zif_t hc h
      refine z_iinc (pc := 68) (ls' := [(2, .int (s.1 + (1 : Int32))), (0, .ref 20), (1, .int a1)]) hG 2 rfl [0, 1, 2] (ki_1 _) (by decide) rfl dX5_tallyField_68 ?_
      refine z_goto (pc := 71) (tgt := 10) hG dX5_tallyField_71 rfl ?_
      obtain rfl := Option.some.inj h
      refine z_sub (ls' := [(0, .ref 20), (1, .int a1), (2, .int (s.1 + (1 : Int32)))]) [1, 2, 0] rfl ?_
      exact hk
    · replace h := zif_f hc h
      refine z_iconst (pc := 25) hG kc_0 dX5_tallyField_25 ?_
      refine z_istore_n (pc := 26) (ls' := [(3, .int (0 : Int32)), (0, .ref 20), (1, .int a1), (2, .int s.1)]) hG [0, 1, 2, 3] rfl (by decide) rfl dX5_tallyField_26 ?_
      refine z_sub (ls' := [(0, .ref 20), (1, .int a1), (2, .int s.1), (3, .int (0 : Int32))]) [1, 2, 3, 0] rfl ?_
      exact kwX5_tallyField_27 hG hl0 a1 s.1 hk ((0 : Int32), s.2) h
set_option maxHeartbeats 60000 in
theorem tX5_tallyField {l : Launch} (hl0 : l.flags = flags0) (a1 : Int32) (g : zS) {r : zS} (h : nX5_tallyField a1 g = some r) : zC l yX5_tallyField cX5_tallyField 4 ((Option.none : Option Jvm.ClassFile.FieldType)) 1 0 0 [.ref 20, .int a1] zD g (.inl none, zD, r) := by
  refine zC_of hl0 rfl (Nat.le_of_ble_eq_true rfl) (fun x hG hxl hk _ => ?_)
  subst hxl
  show zK x 1 0 [(0, .ref 20), (1, .int a1)] [] zD g 0 0
  unfold nX5_tallyField at h
  refine z_aload_n (pc := 0) hG 0 rfl rfl dX5_tallyField_0 ?_
  refine z_gets (pc := 1) hG zc_X5 inX5 DL_20 5 rfl (by decide) rfl w624 dX5_tallyField_1 ?_
  refine z_iconst (pc := 4) hG kc_0 dX5_tallyField_4 ?_
  replace h := zbind h
  obtain ⟨v1, hv1, h⟩ := h
  refine z_csV (pc := 5) (A' := 0) (B' := 0) hG [.ref (zsp g 1), .int (0 : Int32)] [] (tJ7_fill_53178 hl0 (zsp g 1) 64 (0 : Int32) (zsp_dl1 g) g hv1) zy_J7_fill_53178 w341 w340 dX5_tallyField_5 rfl (Nat.le_of_ble_eq_true rfl) rfl rfl rfl (Nat.le_of_ble_eq_true rfl) rfl ?_
  refine z_iconst (pc := 8) hG kc_0 dX5_tallyField_8 ?_
  refine z_istore_n (pc := 9) (ls' := [(2, .int (0 : Int32)), (0, .ref 20), (1, .int a1)]) hG [0, 1, 2] rfl (by decide) rfl dX5_tallyField_9 ?_
  refine z_sub (ls' := [(0, .ref 20), (1, .int a1), (2, .int (0 : Int32))]) [1, 2, 0] rfl ?_
  exact kwX5_tallyField_10 hG hl0 a1 hk ((0 : Int32), v1) h
noncomputable def wX5_tallyPassing_17 (a2 : Int32) (s : (Int32 × zS)) : Option ((Int32 × zS) ⊕ (Int32 × zS)) :=
  if (s.2.1 3 0) ≤ s.1 then (zex (zchk (zin (0 : Int32) 64) (some (((s.2.1 (zsp s.2 0) (0 : Int32).toNatClampNeg), s.2))))) else (if ((a2 >>> (s.1 &&& 31)) &&& (1 : Int32)) = 0 then (some (.inl ((s.1 + (1 : Int32)), s.2))) else ((nX5_tallyField s.1 s.2).bind fun v2 => some (.inl ((s.1 + (1 : Int32)), v2))))
noncomputable def nX5_tallyPassing (a1 : Int32) (a2 : Int32) (g : zS) : Option (Int32 × zS) :=
  (nJ7_fill_53178 (zsp g 0) 64 (0 : Int32) g).bind fun v1 => zchk (zin a1 64) (wh (wX5_tallyPassing_17 a2) ((0 : Int32), (zi v1 (zsp v1 0) a1.toNatClampNeg (1 : Int32))))
def qX5_tallyPassing_17 (x : zXx) (a2 : Int32) (o : (Int32 × zS) ⊕ (Int32 × zS)) : Prop := match o with
  | .inl s => zK x 2 17 [(0, .ref 20), (2, .int a2), (3, .int s.1)] [] zD s.2 0 0
  | .inr r => ztg x = (.inl (some (.int r.1)), zD, r.2)
set_option maxHeartbeats 60000 in
theorem kwX5_tallyPassing_17 {x : zXx} (hG : zG x cX5_tallyPassing 4 RX5 ((Option.some Jvm.ClassFile.FieldType.int))) (hl0 : (zl0 x).flags = flags0) (a2 : Int32) {o : (Int32 × zS)} (hk : ztg x = (.inl (some (.int o.1)), zD, o.2)) : ∀ s : (Int32 × zS), wh (wX5_tallyPassing_17 a2) s = some o → zK x 2 17 [(0, .ref 20), (2, .int a2), (3, .int s.1)] [] zD s.2 0 0 := by
  refine wh_ind (fun s : (Int32 × zS) => zK x 2 17 [(0, .ref 20), (2, .int a2), (3, .int s.1)] [] zD s.2 0 0) (fun s o h hk2 => ?_)
  replace hk : qX5_tallyPassing_17 x a2 o := by
    cases o with
    | inl s => exact hk2
    | inr r => subst hk2; exact hk
  clear hk2
  unfold wX5_tallyPassing_17 at h
  refine z_iload_n (pc := 17) hG 2 rfl rfl dX5_tallyPassing_17 ?_
  refine z_aload_n (pc := 18) hG 0 rfl rfl dX5_tallyPassing_18 ?_
  refine z_getr (pc := 19) hG zc_X5 inX5 DL_20 0 rfl (by decide) rfl w619 dX5_tallyPassing_19 ?_
  refine z_geti (pc := 22) hG zc_X6 inX6 DL_3 0 rfl (by decide) rfl w533 dX5_tallyPassing_22 ?_
  refine z_icmp_ge (pc := 25) (tgt := 47) hG dX5_tallyPassing_25 rfl (fun hc => ?_) (fun hc => ?_)
  · replace h := zif_t hc h
    replace h := zex_some h
    obtain ⟨o, h, rfl⟩ := h
    refine z_aload_n (pc := 47) hG 0 rfl rfl dX5_tallyPassing_47 ?_
    refine z_gets (pc := 48) hG zc_X5 inX5 DL_20 4 rfl (by decide) rfl w623 dX5_tallyPassing_48 ?_
    refine z_iconst (pc := 51) hG kc_0 dX5_tallyPassing_51 ?_
    replace h := zchk_some h
    obtain ⟨hc, h⟩ := h
    refine z_iald (pc := 52) hG (zsp_dl0 s.2) (zin_in hc) dX5_tallyPassing_52 ?_
    obtain rfl := Option.some.inj h
    exact z_iret (pc := 53) hG rfl rfl hk dX5_tallyPassing_53
  · replace h := zif_f hc h
    refine z_iload_n (pc := 28) hG 1 rfl rfl dX5_tallyPassing_28 ?_
    refine z_iload_n (pc := 29) hG 2 rfl rfl dX5_tallyPassing_29 ?_
    refine z_ishr (pc := 30) hG dX5_tallyPassing_30 ?_
    refine z_iconst (pc := 31) hG kc_1 dX5_tallyPassing_31 ?_
    refine z_iand (pc := 32) hG dX5_tallyPassing_32 ?_
    refine z_if_eq (pc := 33) (tgt := 41) hG dX5_tallyPassing_33 rfl (fun hc => ?_) (fun hc => ?_)
    · replace h := zif_t hc h
      refine z_iinc (pc := 41) (ls' := [(3, .int (s.1 + (1 : Int32))), (0, .ref 20), (2, .int a2)]) hG 2 rfl [0, 1, 2] (ki_1 _) (by decide) rfl dX5_tallyPassing_41 ?_
      refine z_goto (pc := 44) (tgt := 17) hG dX5_tallyPassing_44 rfl ?_
      obtain rfl := Option.some.inj h
      refine z_sub (ls' := [(0, .ref 20), (2, .int a2), (3, .int (s.1 + (1 : Int32)))]) [1, 2, 0] rfl ?_
      exact hk
    · replace h := zif_f hc h
      refine z_aload_n (pc := 36) hG 0 rfl rfl dX5_tallyPassing_36 ?_
      refine z_iload_n (pc := 37) hG 2 rfl rfl dX5_tallyPassing_37 ?_
      replace h := zbind h
      obtain ⟨v2, hv2, h⟩ := h
      refine z_cvV (pc := 38) (A' := 0) (B' := 0) hG [.int s.1] [] zc_X5 DL_20 (tX5_tallyField hl0 s.1 s.2 hv2) zy_X5_tallyField ⟨w345, wp16⟩ w343 dX5_tallyPassing_38 rfl (Nat.le_of_ble_eq_true rfl) rfl rfl rfl (Nat.le_of_ble_eq_true rfl) rfl ?_
      refine z_iinc (pc := 41) (ls' := [(3, .int (s.1 + (1 : Int32))), (0, .ref 20), (2, .int a2)]) hG 2 rfl [0, 1, 2] (ki_1 _) (by decide) rfl dX5_tallyPassing_41 ?_
      refine z_goto (pc := 44) (tgt := 17) hG dX5_tallyPassing_44 rfl ?_
      obtain rfl := Option.some.inj h
      refine z_sub (ls' := [(0, .ref 20), (2, .int a2), (3, .int (s.1 + (1 : Int32)))]) [1, 2, 0] rfl ?_
      exact hk
set_option maxHeartbeats 60000 in
theorem tX5_tallyPassing {l : Launch} (hl0 : l.flags = flags0) (a1 : Int32) (a2 : Int32) (g : zS) {r : (Int32 × zS)} (h : nX5_tallyPassing a1 a2 g = some r) : zC l yX5_tallyPassing cX5_tallyPassing 4 ((Option.some Jvm.ClassFile.FieldType.int)) 2 0 0 [.ref 20, .int a1, .int a2] zD g (.inl (some (.int r.1)), zD, r.2) := by
  refine zC_of hl0 rfl (Nat.le_of_ble_eq_true rfl) (fun x hG hxl hk _ => ?_)
  subst hxl
  show zK x 2 0 [(0, .ref 20), (1, .int a1), (2, .int a2)] [] zD g 0 0
  unfold nX5_tallyPassing at h
  refine z_aload_n (pc := 0) hG 0 rfl rfl dX5_tallyPassing_0 ?_
  refine z_gets (pc := 1) hG zc_X5 inX5 DL_20 4 rfl (by decide) rfl w623 dX5_tallyPassing_1 ?_
  refine z_iconst (pc := 4) hG kc_0 dX5_tallyPassing_4 ?_
  replace h := zbind h
  obtain ⟨v1, hv1, h⟩ := h
  refine z_csV (pc := 5) (A' := 0) (B' := 0) hG [.ref (zsp g 0), .int (0 : Int32)] [] (tJ7_fill_53178 hl0 (zsp g 0) 64 (0 : Int32) (zsp_dl0 g) g hv1) zy_J7_fill_53178 w341 w340 dX5_tallyPassing_5 rfl (Nat.le_of_ble_eq_true rfl) rfl rfl rfl (Nat.le_of_ble_eq_true rfl) rfl ?_
  refine z_aload_n (pc := 8) hG 0 rfl rfl dX5_tallyPassing_8 ?_
  refine z_gets (pc := 9) hG zc_X5 inX5 DL_20 4 rfl (by decide) rfl w623 dX5_tallyPassing_9 ?_
  refine z_iload_n (pc := 12) hG 1 rfl rfl dX5_tallyPassing_12 ?_
  refine z_iconst (pc := 13) hG kc_1 dX5_tallyPassing_13 ?_
  replace h := zchk_some h
  obtain ⟨hc, h⟩ := h
  refine z_iast (pc := 14) hG (zsp_dl0 v1) (zin_in hc) dX5_tallyPassing_14 ?_
  refine z_iconst (pc := 15) hG kc_0 dX5_tallyPassing_15 ?_
  refine z_istore_n (pc := 16) (ls' := [(3, .int (0 : Int32)), (0, .ref 20), (1, .int a1), (2, .int a2)]) hG [0, 1, 2, 3] rfl (by decide) rfl dX5_tallyPassing_16 ?_
  refine z_sub (ls' := [(0, .ref 20), (2, .int a2), (3, .int (0 : Int32))]) [1, 3, 0] rfl ?_
  exact kwX5_tallyPassing_17 hG hl0 a2 hk ((0 : Int32), (zi v1 (zsp v1 0) a1.toNatClampNeg (1 : Int32))) h
noncomputable def nX6_allValues (a1 : Int32) (g : zS) : Option Int32 :=
  zchk (zin a1 5) (some ((((1 : Int32) <<< ((g.1 4 a1.toNatClampNeg) &&& 31)) - (1 : Int32))))
set_option maxHeartbeats 60000 in
theorem tX6_allValues {l : Launch} (hl0 : l.flags = flags0) (a1 : Int32) (g : zS) {r : Int32} (h : nX6_allValues a1 g = some r) : zC l yX6_allValues cX6_allValues 2 ((Option.some Jvm.ClassFile.FieldType.int)) 0 0 0 [.ref 3, .int a1] zD g (.inl (some (.int r)), zD, g) := by
  refine zC_of hl0 rfl (Nat.le_of_ble_eq_true rfl) (fun x hG hxl hk _ => ?_)
  subst hxl
  show zK x 0 0 [(0, .ref 3), (1, .int a1)] [] zD g 0 0
  unfold nX6_allValues at h
  refine z_iconst (pc := 0) hG kc_1 dX6_allValues_0 ?_
  refine z_aload_n (pc := 1) hG 0 rfl rfl dX6_allValues_1 ?_
  refine z_getr (pc := 2) hG zc_X6 inX6 DL_3 1 rfl (by decide) rfl w538 dX6_allValues_2 ?_
  refine z_iload_n (pc := 5) hG 1 rfl rfl dX6_allValues_5 ?_
  replace h := zchk_some h
  obtain ⟨hc, h⟩ := h
  refine z_iald (pc := 6) hG DL_4 (zin_in hc) dX6_allValues_6 ?_
  refine z_ishl (pc := 7) hG dX6_allValues_7 ?_
  refine z_iconst (pc := 8) hG kc_1 dX6_allValues_8 ?_
  refine z_isub (pc := 9) hG dX6_allValues_9 ?_
  obtain rfl := Option.some.inj h
  exact z_iret (pc := 10) hG rfl rfl hk dX6_allValues_10
noncomputable def wX3_ahead_5 (a2 : Int32) (g : zS) (s : (Int64 × Int32)) : Option ((Int64 × Int32) ⊕ Int64) :=
  if (6 : Int32) ≤ s.2 then (zex (some (s.1))) else (if ((a2 >>> (s.2 &&& 31)) &&& (1 : Int32)) = 0 then (zchk (zin s.2 6) (some (.inl (((s.1 &&& ((zwith.getD s.2.toNatClampNeg 0) ^^^ (-1 : Int64))) ||| ((s.1 &&& ((zwith.getD s.2.toNatClampNeg 0) ^^^ (-1 : Int64))) <<< (((1 : Int32) <<< (s.2 &&& 31)).toInt64 &&& 63))), (s.2 + (1 : Int32)))))) else (some (.inl (s.1, (s.2 + (1 : Int32))))))
noncomputable def nX3_ahead (a0 : Int64) (a2 : Int32) (g : zS) : Option Int64 :=
  wh (wX3_ahead_5 a2 g) (a0, (0 : Int32))
def qX3_ahead_5 (x : zXx) (a2 : Int32) (g : zS) (o : (Int64 × Int32) ⊕ Int64) : Prop := match o with
  | .inl s => zK x 0 5 [(2, .int a2), (3, .long s.1), (5, .int s.2)] [] zD g 0 0
  | .inr r => ztg x = (.inl (some (.long r)), zD, g)
set_option maxHeartbeats 60000 in
theorem kwX3_ahead_5 {x : zXx} (hG : zG x cX3_ahead 6 RX3 ((Option.some Jvm.ClassFile.FieldType.long))) (hl0 : (zl0 x).flags = flags0) (a2 : Int32) (g : zS) {o : Int64} (hk : ztg x = (.inl (some (.long o)), zD, g)) : ∀ s : (Int64 × Int32), wh (wX3_ahead_5 a2 g) s = some o → zK x 0 5 [(2, .int a2), (3, .long s.1), (5, .int s.2)] [] zD g 0 0 := by
  refine wh_ind (fun s : (Int64 × Int32) => zK x 0 5 [(2, .int a2), (3, .long s.1), (5, .int s.2)] [] zD g 0 0) (fun s o h hk2 => ?_)
  replace hk : qX3_ahead_5 x a2 g o := by
    cases o with
    | inl s => exact hk2
    | inr r => subst hk2; exact hk
  clear hk2
  unfold wX3_ahead_5 at h
  refine z_iload (pc := 5) hG 2 rfl dX3_ahead_5 ?_
  refine z_bipush (pc := 7) hG kb_6 dX3_ahead_7 ?_
  refine z_icmp_ge (pc := 9) (tgt := 49) hG dX3_ahead_9 rfl (fun hc => ?_) (fun hc => ?_)
  · replace h := zif_t hc h
    replace h := zex_some h
    obtain ⟨o, h, rfl⟩ := h
    refine z_lload_n (pc := 49) hG 1 rfl rfl dX3_ahead_49 ?_
    obtain rfl := Option.some.inj h
    exact z_lret (pc := 50) hG rfl hk dX3_ahead_50
  · replace h := zif_f hc h
    refine z_iload_n (pc := 12) hG 0 rfl rfl dX3_ahead_12 ?_
    refine z_iload (pc := 13) hG 2 rfl dX3_ahead_13 ?_
    refine z_ishr (pc := 15) hG dX3_ahead_15 ?_
    refine z_iconst (pc := 16) hG kc_1 dX3_ahead_16 ?_
    refine z_iand (pc := 17) hG dX3_ahead_17 ?_
    refine z_if_ne (pc := 18) (tgt := 43) hG dX3_ahead_18 rfl (fun hc => ?_) (fun hc => ?_)
    · replace h := zif_f hc h
      refine z_iinc (pc := 43) (ls' := [(5, .int (s.2 + (1 : Int32))), (2, .int a2), (3, .long s.1)]) hG 2 rfl [0, 1, 2] (ki_1 _) (by decide) rfl dX3_ahead_43 ?_
      refine z_goto (pc := 46) (tgt := 5) hG dX3_ahead_46 rfl ?_
      obtain rfl := Option.some.inj h
      refine z_sub (ls' := [(2, .int a2), (3, .long s.1), (5, .int (s.2 + (1 : Int32)))]) [1, 2, 0] rfl ?_
      exact hk
    · replace h := zif_t hc h
      refine z_lload_n (pc := 21) hG 1 rfl rfl dX3_ahead_21 ?_
      replace h := zchk_some h
      obtain ⟨hc, h⟩ := h
      refine z_with (pc := 22) (k := 2) hG w151 rfl (zin_in hc) dX3_ahead_22 dX3_ahead_25 dX3_ahead_27 ?_
      refine z_ldc2 (pc := 28) hG w166 dX3_ahead_28 ?_
      refine z_lxor (pc := 31) hG dX3_ahead_31 ?_
      refine z_land (pc := 32) hG dX3_ahead_32 ?_
      refine z_lstore_n (pc := 33) (ls' := [(3, .long (s.1 &&& ((zwith.getD s.2.toNatClampNeg 0) ^^^ (-1 : Int64)))), (2, .int a2), (5, .int s.2)]) hG [0, 1, 2] rfl (by decide) rfl dX3_ahead_33 ?_
      refine z_lload_n (pc := 34) hG 0 rfl rfl dX3_ahead_34 ?_
      refine z_lload_n (pc := 35) hG 0 rfl rfl dX3_ahead_35 ?_
      refine z_iconst (pc := 36) hG kc_1 dX3_ahead_36 ?_
      refine z_iload (pc := 37) hG 2 rfl dX3_ahead_37 ?_
      refine z_ishl (pc := 39) hG dX3_ahead_39 ?_
      refine z_lshl (pc := 40) hG dX3_ahead_40 ?_
      refine z_lor (pc := 41) hG dX3_ahead_41 ?_
      refine z_lstore_n (pc := 42) (ls' := [(3, .long ((s.1 &&& ((zwith.getD s.2.toNatClampNeg 0) ^^^ (-1 : Int64))) ||| ((s.1 &&& ((zwith.getD s.2.toNatClampNeg 0) ^^^ (-1 : Int64))) <<< (((1 : Int32) <<< (s.2 &&& 31)).toInt64 &&& 63)))), (2, .int a2), (5, .int s.2)]) hG [0, 1, 2] rfl (by decide) rfl dX3_ahead_42 ?_
      refine z_iinc (pc := 43) (ls' := [(5, .int (s.2 + (1 : Int32))), (3, .long ((s.1 &&& ((zwith.getD s.2.toNatClampNeg 0) ^^^ (-1 : Int64))) ||| ((s.1 &&& ((zwith.getD s.2.toNatClampNeg 0) ^^^ (-1 : Int64))) <<< (((1 : Int32) <<< (s.2 &&& 31)).toInt64 &&& 63)))), (2, .int a2)]) hG 2 rfl [0, 1, 2] (ki_1 _) (by decide) rfl dX3_ahead_43 ?_
      refine z_goto (pc := 46) (tgt := 5) hG dX3_ahead_46 rfl ?_
      obtain rfl := Option.some.inj h
      refine z_sub (ls' := [(2, .int a2), (3, .long ((s.1 &&& ((zwith.getD s.2.toNatClampNeg 0) ^^^ (-1 : Int64))) ||| ((s.1 &&& ((zwith.getD s.2.toNatClampNeg 0) ^^^ (-1 : Int64))) <<< (((1 : Int32) <<< (s.2 &&& 31)).toInt64 &&& 63)))), (5, .int (s.2 + (1 : Int32)))]) [2, 1, 0] rfl ?_
      exact hk
set_option maxHeartbeats 60000 in
theorem tX3_ahead {l : Launch} (hl0 : l.flags = flags0) (a0 : Int64) (a2 : Int32) (g : zS) {r : Int64} (h : nX3_ahead a0 a2 g = some r) : zC l yX3_ahead cX3_ahead 6 ((Option.some Jvm.ClassFile.FieldType.long)) 0 0 0 [.long a0, .int a2] zD g (.inl (some (.long r)), zD, g) := by
  refine zC_of hl0 rfl (Nat.le_of_ble_eq_true rfl) (fun x hG hxl hk _ => ?_)
  subst hxl
  show zK x 0 0 [(0, .long a0), (2, .int a2)] [] zD g 0 0
  unfold nX3_ahead at h
  refine z_lload_n (pc := 0) hG 0 rfl rfl dX3_ahead_0 ?_
  refine z_lstore_n (pc := 1) (ls' := [(3, .long a0), (0, .long a0), (2, .int a2)]) hG [0, 1, 2] rfl (by decide) rfl dX3_ahead_1 ?_
  refine z_iconst (pc := 2) hG kc_0 dX3_ahead_2 ?_
  refine z_istore (pc := 3) (ls' := [(5, .int (0 : Int32)), (3, .long a0), (0, .long a0), (2, .int a2)]) hG [0, 1, 2, 3] (by decide) rfl dX3_ahead_3 ?_
  refine z_sub (ls' := [(2, .int a2), (3, .long a0), (5, .int (0 : Int32))]) [3, 1, 0] rfl ?_
  exact kwX3_ahead_5 hG hl0 a2 g hk (a0, (0 : Int32)) h
noncomputable def wX5_aheadOf_6 (a1 : Int64) (a3 : Int32) (a4 : Int32) (g : zS) (s : (Int64 × Int32)) : Option ((Int64 × Int32) ⊕ Int64) :=
  zchk (zin a3 5) (if (g.1 4 a3.toNatClampNeg) ≤ s.2 then (zex (some (s.1))) else (if ((a4 >>> (s.2 &&& 31)) &&& (1 : Int32)) = 0 then (some (.inl (s.1, (s.2 + (1 : Int32))))) else ((nX5_editsOfAnswer a3 s.2 g).bind fun v1 => (nX3_ahead a1 v1 g).bind fun v2 => some (.inl ((s.1 ||| v2), (s.2 + (1 : Int32)))))))
noncomputable def nX5_aheadOf (a1 : Int64) (a3 : Int32) (a4 : Int32) (g : zS) : Option Int64 :=
  wh (wX5_aheadOf_6 a1 a3 a4 g) ((0 : Int64), (0 : Int32))
def qX5_aheadOf_6 (x : zXx) (a1 : Int64) (a3 : Int32) (a4 : Int32) (g : zS) (o : (Int64 × Int32) ⊕ Int64) : Prop := match o with
  | .inl s => zK x 1 6 [(0, .ref 20), (1, .long a1), (3, .int a3), (4, .int a4), (5, .long s.1), (7, .int s.2)] [] zD g 0 0
  | .inr r => ztg x = (.inl (some (.long r)), zD, g)
set_option maxHeartbeats 60000 in
theorem kwX5_aheadOf_6 {x : zXx} (hG : zG x cX5_aheadOf 8 RX5 ((Option.some Jvm.ClassFile.FieldType.long))) (hl0 : (zl0 x).flags = flags0) (a1 : Int64) (a3 : Int32) (a4 : Int32) (g : zS) {o : Int64} (hk : ztg x = (.inl (some (.long o)), zD, g)) : ∀ s : (Int64 × Int32), wh (wX5_aheadOf_6 a1 a3 a4 g) s = some o → zK x 1 6 [(0, .ref 20), (1, .long a1), (3, .int a3), (4, .int a4), (5, .long s.1), (7, .int s.2)] [] zD g 0 0 := by
  refine wh_ind (fun s : (Int64 × Int32) => zK x 1 6 [(0, .ref 20), (1, .long a1), (3, .int a3), (4, .int a4), (5, .long s.1), (7, .int s.2)] [] zD g 0 0) (fun s o h hk2 => ?_)
  replace hk : qX5_aheadOf_6 x a1 a3 a4 g o := by
    cases o with
    | inl s => exact hk2
    | inr r => subst hk2; exact hk
  clear hk2
  unfold wX5_aheadOf_6 at h
  refine z_iload (pc := 6) hG 5 rfl dX5_aheadOf_6 ?_
  refine z_aload_n (pc := 8) hG 0 rfl rfl dX5_aheadOf_8 ?_
  refine z_getr (pc := 9) hG zc_X5 inX5 DL_20 0 rfl (by decide) rfl w619 dX5_aheadOf_9 ?_
  refine z_getr (pc := 12) hG zc_X6 inX6 DL_3 1 rfl (by decide) rfl w539 dX5_aheadOf_12 ?_
  refine z_iload_n (pc := 15) hG 2 rfl rfl dX5_aheadOf_15 ?_
  replace h := zchk_some h
  obtain ⟨hc, h⟩ := h
  refine z_iald (pc := 16) hG DL_4 (zin_in hc) dX5_aheadOf_16 ?_
  refine z_icmp_ge (pc := 17) (tgt := 52) hG dX5_aheadOf_17 rfl (fun hc => ?_) (fun hc => ?_)
  · replace h := zif_t hc h
    replace h := zex_some h
    obtain ⟨o, h, rfl⟩ := h
    refine z_lload (pc := 52) hG 4 rfl dX5_aheadOf_52 ?_
    obtain rfl := Option.some.inj h
    exact z_lret (pc := 54) hG rfl hk dX5_aheadOf_54
  · replace h := zif_f hc h
    refine z_iload (pc := 20) hG 3 rfl dX5_aheadOf_20 ?_
    refine z_iload (pc := 22) hG 5 rfl dX5_aheadOf_22 ?_
    refine z_ishr (pc := 24) hG dX5_aheadOf_24 ?_
    refine z_iconst (pc := 25) hG kc_1 dX5_aheadOf_25 ?_
    refine z_iand (pc := 26) hG dX5_aheadOf_26 ?_
    refine z_if_eq (pc := 27) (tgt := 46) hG dX5_aheadOf_27 rfl (fun hc => ?_) (fun hc => ?_)
    · replace h := zif_t hc h
      refine z_iinc (pc := 46) (ls' := [(7, .int (s.2 + (1 : Int32))), (0, .ref 20), (1, .long a1), (3, .int a3), (4, .int a4), (5, .long s.1)]) hG 5 rfl [0, 1, 2, 3, 4, 5] (ki_1 _) (by decide) rfl dX5_aheadOf_46 ?_
      refine z_goto (pc := 49) (tgt := 6) hG dX5_aheadOf_49 rfl ?_
      obtain rfl := Option.some.inj h
      refine z_sub (ls' := [(0, .ref 20), (1, .long a1), (3, .int a3), (4, .int a4), (5, .long s.1), (7, .int (s.2 + (1 : Int32)))]) [1, 2, 3, 4, 5, 0] rfl ?_
      exact hk
    · replace h := zif_f hc h
      refine z_lload (pc := 30) hG 4 rfl dX5_aheadOf_30 ?_
      refine z_lload_n (pc := 32) hG 1 rfl rfl dX5_aheadOf_32 ?_
      refine z_aload_n (pc := 33) hG 0 rfl rfl dX5_aheadOf_33 ?_
      refine z_iload_n (pc := 34) hG 2 rfl rfl dX5_aheadOf_34 ?_
      refine z_iload (pc := 35) hG 5 rfl dX5_aheadOf_35 ?_
      replace h := zbind h
      obtain ⟨v1, hv1, h⟩ := h
      refine z_cvI (pc := 37) (A' := 0) (B' := 0) hG [.int a3, .int s.2] [.long a1, .long s.1] zc_X5 DL_20 (tX5_editsOfAnswer hl0 a3 s.2 g hv1) zy_X5_editsOfAnswer ⟨w145, w146⟩ w162 dX5_aheadOf_37 rfl (Nat.le_of_ble_eq_true rfl) rfl rfl rfl (Nat.le_of_ble_eq_true rfl) rfl ?_
      replace h := zbind h
      obtain ⟨v2, hv2, h⟩ := h
      refine z_csJ (pc := 40) (A' := 0) (B' := 0) hG [.long a1, .int v1] [.long s.1] (tX3_ahead hl0 a1 v1 g hv2) zy_X3_ahead w164 w163 dX5_aheadOf_40 rfl (Nat.le_of_ble_eq_true rfl) rfl rfl rfl (Nat.le_of_ble_eq_true rfl) rfl ?_
      refine z_lor (pc := 43) hG dX5_aheadOf_43 ?_
      refine z_lstore (pc := 44) (ls' := [(5, .long (s.1 ||| v2)), (0, .ref 20), (1, .long a1), (3, .int a3), (4, .int a4), (7, .int s.2)]) hG [0, 1, 2, 3, 4, 5] (by decide) rfl dX5_aheadOf_44 ?_
      refine z_iinc (pc := 46) (ls' := [(7, .int (s.2 + (1 : Int32))), (5, .long (s.1 ||| v2)), (0, .ref 20), (1, .long a1), (3, .int a3), (4, .int a4)]) hG 5 rfl [0, 1, 2, 3, 4, 5] (ki_1 _) (by decide) rfl dX5_aheadOf_46 ?_
      refine z_goto (pc := 49) (tgt := 6) hG dX5_aheadOf_49 rfl ?_
      obtain rfl := Option.some.inj h
      refine z_sub (ls' := [(0, .ref 20), (1, .long a1), (3, .int a3), (4, .int a4), (5, .long (s.1 ||| v2)), (7, .int (s.2 + (1 : Int32)))]) [2, 3, 4, 5, 1, 0] rfl ?_
      exact hk
set_option maxHeartbeats 60000 in
theorem tX5_aheadOf {l : Launch} (hl0 : l.flags = flags0) (a1 : Int64) (a3 : Int32) (a4 : Int32) (g : zS) {r : Int64} (h : nX5_aheadOf a1 a3 a4 g = some r) : zC l yX5_aheadOf cX5_aheadOf 8 ((Option.some Jvm.ClassFile.FieldType.long)) 1 0 0 [.ref 20, .long a1, .int a3, .int a4] zD g (.inl (some (.long r)), zD, g) := by
  refine zC_of hl0 rfl (Nat.le_of_ble_eq_true rfl) (fun x hG hxl hk _ => ?_)
  subst hxl
  show zK x 1 0 [(0, .ref 20), (1, .long a1), (3, .int a3), (4, .int a4)] [] zD g 0 0
  unfold nX5_aheadOf at h
  refine z_lconst (pc := 0) hG kl_0 dX5_aheadOf_0 ?_
  refine z_lstore (pc := 1) (ls' := [(5, .long (0 : Int64)), (0, .ref 20), (1, .long a1), (3, .int a3), (4, .int a4)]) hG [0, 1, 2, 3, 4] (by decide) rfl dX5_aheadOf_1 ?_
  refine z_iconst (pc := 3) hG kc_0 dX5_aheadOf_3 ?_
  refine z_istore (pc := 4) (ls' := [(7, .int (0 : Int32)), (5, .long (0 : Int64)), (0, .ref 20), (1, .long a1), (3, .int a3), (4, .int a4)]) hG [0, 1, 2, 3, 4, 5] (by decide) rfl dX5_aheadOf_4 ?_
  refine z_sub (ls' := [(0, .ref 20), (1, .long a1), (3, .int a3), (4, .int a4), (5, .long (0 : Int64)), (7, .int (0 : Int32))]) [2, 3, 4, 5, 1, 0] rfl ?_
  exact kwX5_aheadOf_6 hG hl0 a1 a3 a4 g hk ((0 : Int64), (0 : Int32)) h
noncomputable def nX6_editSet (a1 : Int32) (a2 : Int32) (g : zS) : Option Int32 :=
  zchk (zin ((a1 * (5 : Int32)) + a2) 30) (some ((g.1 9 ((a1 * (5 : Int32)) + a2).toNatClampNeg)))
set_option maxHeartbeats 60000 in
theorem tX6_editSet {l : Launch} (hl0 : l.flags = flags0) (a1 : Int32) (a2 : Int32) (g : zS) {r : Int32} (h : nX6_editSet a1 a2 g = some r) : zC l yX6_editSet cX6_editSet 3 ((Option.some Jvm.ClassFile.FieldType.int)) 0 0 0 [.ref 3, .int a1, .int a2] zD g (.inl (some (.int r)), zD, g) := by
  refine zC_of hl0 rfl (Nat.le_of_ble_eq_true rfl) (fun x hG hxl hk _ => ?_)
  subst hxl
  show zK x 0 0 [(0, .ref 3), (1, .int a1), (2, .int a2)] [] zD g 0 0
  unfold nX6_editSet at h
  refine z_aload_n (pc := 0) hG 0 rfl rfl dX6_editSet_0 ?_
  refine z_getr (pc := 1) hG zc_X6 inX6 DL_3 8 rfl (by decide) rfl w561 dX6_editSet_1 ?_
  refine z_iload_n (pc := 4) hG 1 rfl rfl dX6_editSet_4 ?_
  refine z_iconst (pc := 5) hG kc_5 dX6_editSet_5 ?_
  refine z_imul (pc := 6) hG dX6_editSet_6 ?_
  refine z_iload_n (pc := 7) hG 2 rfl rfl dX6_editSet_7 ?_
  refine z_iadd (pc := 8) hG dX6_editSet_8 ?_
  replace h := zchk_some h
  obtain ⟨hc, h⟩ := h
  refine z_iald (pc := 9) hG DL_9 (zin_in hc) dX6_editSet_9 ?_
  obtain rfl := Option.some.inj h
  exact z_iret (pc := 10) hG rfl rfl hk dX6_editSet_10
noncomputable def wX5_editsWith_5 (a1 : Int32) (a2 : Int32) (g : zS) (s : (Int32 × Int32)) : Option ((Int32 × Int32) ⊕ Int32) :=
  if (g.1 3 7) ≤ s.2 then (zex (some (s.1))) else ((nX6_editSet s.2 a1 g).bind fun v1 => if ((v1 >>> (a2 &&& 31)) &&& (1 : Int32)) = 0 then (some (.inl (s.1, (s.2 + (1 : Int32))))) else (some (.inl ((s.1 ||| ((1 : Int32) <<< (s.2 &&& 31))), (s.2 + (1 : Int32))))))
noncomputable def nX5_editsWith (a1 : Int32) (a2 : Int32) (g : zS) : Option Int32 :=
  wh (wX5_editsWith_5 a1 a2 g) ((0 : Int32), (0 : Int32))
def qX5_editsWith_5 (x : zXx) (a1 : Int32) (a2 : Int32) (g : zS) (o : (Int32 × Int32) ⊕ Int32) : Prop := match o with
  | .inl s => zK x 1 5 [(0, .ref 20), (1, .int a1), (2, .int a2), (3, .int s.1), (4, .int s.2)] [] zD g 0 0
  | .inr r => ztg x = (.inl (some (.int r)), zD, g)
set_option maxHeartbeats 60000 in
theorem kwX5_editsWith_5 {x : zXx} (hG : zG x cX5_editsWith 5 RX5 ((Option.some Jvm.ClassFile.FieldType.int))) (hl0 : (zl0 x).flags = flags0) (a1 : Int32) (a2 : Int32) (g : zS) {o : Int32} (hk : ztg x = (.inl (some (.int o)), zD, g)) : ∀ s : (Int32 × Int32), wh (wX5_editsWith_5 a1 a2 g) s = some o → zK x 1 5 [(0, .ref 20), (1, .int a1), (2, .int a2), (3, .int s.1), (4, .int s.2)] [] zD g 0 0 := by
  refine wh_ind (fun s : (Int32 × Int32) => zK x 1 5 [(0, .ref 20), (1, .int a1), (2, .int a2), (3, .int s.1), (4, .int s.2)] [] zD g 0 0) (fun s o h hk2 => ?_)
  replace hk : qX5_editsWith_5 x a1 a2 g o := by
    cases o with
    | inl s => exact hk2
    | inr r => subst hk2; exact hk
  clear hk2
  unfold wX5_editsWith_5 at h
  refine z_iload (pc := 5) hG 4 rfl dX5_editsWith_5 ?_
  refine z_aload_n (pc := 7) hG 0 rfl rfl dX5_editsWith_7 ?_
  refine z_getr (pc := 8) hG zc_X5 inX5 DL_20 0 rfl (by decide) rfl w619 dX5_editsWith_8 ?_
  refine z_geti (pc := 11) hG zc_X6 inX6 DL_3 7 rfl (by decide) rfl w559 dX5_editsWith_11 ?_
  refine z_icmp_ge (pc := 14) (tgt := 47) hG dX5_editsWith_14 rfl (fun hc => ?_) (fun hc => ?_)
  · replace h := zif_t hc h
    replace h := zex_some h
    obtain ⟨o, h, rfl⟩ := h
    refine z_iload_n (pc := 47) hG 3 rfl rfl dX5_editsWith_47 ?_
    obtain rfl := Option.some.inj h
    exact z_iret (pc := 48) hG rfl rfl hk dX5_editsWith_48
  · replace h := zif_f hc h
    refine z_aload_n (pc := 17) hG 0 rfl rfl dX5_editsWith_17 ?_
    refine z_getr (pc := 18) hG zc_X5 inX5 DL_20 0 rfl (by decide) rfl w619 dX5_editsWith_18 ?_
    refine z_iload (pc := 21) hG 4 rfl dX5_editsWith_21 ?_
    refine z_iload_n (pc := 23) hG 1 rfl rfl dX5_editsWith_23 ?_
    replace h := zbind h
    obtain ⟨v1, hv1, h⟩ := h
    refine z_cvI (pc := 24) (A' := 0) (B' := 0) hG [.int s.2, .int a1] [] zc_X6 DL_3 (tX6_editSet hl0 s.2 a1 g hv1) zy_X6_editSet ⟨w1227, w1228⟩ w1226 dX5_editsWith_24 rfl (Nat.le_of_ble_eq_true rfl) rfl rfl rfl (Nat.le_of_ble_eq_true rfl) rfl ?_
    refine z_iload_n (pc := 27) hG 2 rfl rfl dX5_editsWith_27 ?_
    refine z_ishr (pc := 28) hG dX5_editsWith_28 ?_
    refine z_iconst (pc := 29) hG kc_1 dX5_editsWith_29 ?_
    refine z_iand (pc := 30) hG dX5_editsWith_30 ?_
    refine z_if_eq (pc := 31) (tgt := 41) hG dX5_editsWith_31 rfl (fun hc => ?_) (fun hc => ?_)
    · replace h := zif_t hc h
      refine z_iinc (pc := 41) (ls' := [(4, .int (s.2 + (1 : Int32))), (0, .ref 20), (1, .int a1), (2, .int a2), (3, .int s.1)]) hG 4 rfl [0, 1, 2, 3, 4] (ki_1 _) (by decide) rfl dX5_editsWith_41 ?_
      refine z_goto (pc := 44) (tgt := 5) hG dX5_editsWith_44 rfl ?_
      obtain rfl := Option.some.inj h
      refine z_sub (ls' := [(0, .ref 20), (1, .int a1), (2, .int a2), (3, .int s.1), (4, .int (s.2 + (1 : Int32)))]) [1, 2, 3, 4, 0] rfl ?_
      exact hk
    · replace h := zif_f hc h
      refine z_iload_n (pc := 34) hG 3 rfl rfl dX5_editsWith_34 ?_
      refine z_iconst (pc := 35) hG kc_1 dX5_editsWith_35 ?_
      refine z_iload (pc := 36) hG 4 rfl dX5_editsWith_36 ?_
      refine z_ishl (pc := 38) hG dX5_editsWith_38 ?_
      refine z_ior (pc := 39) hG dX5_editsWith_39 ?_
      refine z_istore_n (pc := 40) (ls' := [(3, .int (s.1 ||| ((1 : Int32) <<< (s.2 &&& 31)))), (0, .ref 20), (1, .int a1), (2, .int a2), (4, .int s.2)]) hG [0, 1, 2, 3, 4] rfl (by decide) rfl dX5_editsWith_40 ?_
      refine z_iinc (pc := 41) (ls' := [(4, .int (s.2 + (1 : Int32))), (3, .int (s.1 ||| ((1 : Int32) <<< (s.2 &&& 31)))), (0, .ref 20), (1, .int a1), (2, .int a2)]) hG 4 rfl [0, 1, 2, 3, 4] (ki_1 _) (by decide) rfl dX5_editsWith_41 ?_
      refine z_goto (pc := 44) (tgt := 5) hG dX5_editsWith_44 rfl ?_
      obtain rfl := Option.some.inj h
      refine z_sub (ls' := [(0, .ref 20), (1, .int a1), (2, .int a2), (3, .int (s.1 ||| ((1 : Int32) <<< (s.2 &&& 31)))), (4, .int (s.2 + (1 : Int32)))]) [2, 3, 4, 1, 0] rfl ?_
      exact hk
set_option maxHeartbeats 60000 in
theorem tX5_editsWith {l : Launch} (hl0 : l.flags = flags0) (a1 : Int32) (a2 : Int32) (g : zS) {r : Int32} (h : nX5_editsWith a1 a2 g = some r) : zC l yX5_editsWith cX5_editsWith 5 ((Option.some Jvm.ClassFile.FieldType.int)) 1 0 0 [.ref 20, .int a1, .int a2] zD g (.inl (some (.int r)), zD, g) := by
  refine zC_of hl0 rfl (Nat.le_of_ble_eq_true rfl) (fun x hG hxl hk _ => ?_)
  subst hxl
  show zK x 1 0 [(0, .ref 20), (1, .int a1), (2, .int a2)] [] zD g 0 0
  unfold nX5_editsWith at h
  refine z_iconst (pc := 0) hG kc_0 dX5_editsWith_0 ?_
  refine z_istore_n (pc := 1) (ls' := [(3, .int (0 : Int32)), (0, .ref 20), (1, .int a1), (2, .int a2)]) hG [0, 1, 2, 3] rfl (by decide) rfl dX5_editsWith_1 ?_
  refine z_iconst (pc := 2) hG kc_0 dX5_editsWith_2 ?_
  refine z_istore (pc := 3) (ls' := [(4, .int (0 : Int32)), (3, .int (0 : Int32)), (0, .ref 20), (1, .int a1), (2, .int a2)]) hG [0, 1, 2, 3, 4] (by decide) rfl dX5_editsWith_3 ?_
  refine z_sub (ls' := [(0, .ref 20), (1, .int a1), (2, .int a2), (3, .int (0 : Int32)), (4, .int (0 : Int32))]) [2, 3, 4, 1, 0] rfl ?_
  exact kwX5_editsWith_5 hG hl0 a1 a2 g hk ((0 : Int32), (0 : Int32)) h
noncomputable def wX5_prepare_108 (a1 : Int32) (s : (Int32 × zS)) : Option ((Int32 × zS) ⊕ ((Int32 × zS) ⊕ zS)) :=
  if ((1 : Int32) <<< (a1 &&& 31)) ≤ s.1 then (zex (some (.inl ((a1 + (1 : Int32)), s.2)))) else (zchk (zin s.1 32) ((nX6_allValues a1 s.2).bind fun v5 => (nX5_aheadOf (s.2.2.1 23 s.1.toNatClampNeg) a1 v5 s.2).bind fun v6 => zchk (zin (s.1 ||| ((1 : Int32) <<< (a1 &&& 31))) 32) (some (.inl ((s.1 + (1 : Int32)), (zl s.2 23 (s.1 ||| ((1 : Int32) <<< (a1 &&& 31))).toNatClampNeg v6))))))
noncomputable def wX5_prepare_95  (s : (Int32 × zS)) : Option ((Int32 × zS) ⊕ zS) :=
  if (s.2.1 3 0) ≤ s.1 then (zex ((nX5_sortSets s.2).bind fun v1 => (nX6_allEdits v1).bind fun v2 => (nX6_allFields v1).bind fun v3 => (nX5_tallyPassing v2 v3 v1).bind fun v4 => some ((zi v4.2 20 6 v4.1)))) else (wh (wX5_prepare_108 s.1) ((0 : Int32), s.2))
noncomputable def wX5_prepare_23 (a1 : Int32) (s : (Int32 × Int32 × zS)) : Option ((Int32 × Int32 × zS) ⊕ ((Int32 × zS) ⊕ zS)) :=
  zchk (zin a1 5) (if (s.2.2.1 4 a1.toNatClampNeg) ≤ s.2.1 then (zex (zchk (zin (a1 * (6 : Int32)) 30) (some (.inl ((a1 + (1 : Int32)), (zi s.2.2 21 (a1 * (6 : Int32)).toNatClampNeg s.1)))))) else ((nX5_editsWith a1 s.2.1 s.2.2).bind fun v8 => zchk (zin (((a1 * (6 : Int32)) + (1 : Int32)) + s.2.1) 30) (some (.inl ((s.1 &&& v8), (s.2.1 + (1 : Int32)), (zi s.2.2 21 (((a1 * (6 : Int32)) + (1 : Int32)) + s.2.1).toNatClampNeg v8))))))
noncomputable def wX5_prepare_2  (s : (Int32 × zS)) : Option ((Int32 × zS) ⊕ zS) :=
  if (s.2.1 3 0) ≤ s.1 then (zex (zchk (zin (0 : Int32) 32) (wh (wX5_prepare_95 ) ((0 : Int32), (zl s.2 23 (0 : Int32).toNatClampNeg (1 : Int64)))))) else ((nX6_allEdits s.2).bind fun v7 => wh (wX5_prepare_23 s.1) (v7, (0 : Int32), s.2))
noncomputable def nX5_prepare (g : zS) : Option zS :=
  wh (wX5_prepare_2 ) ((0 : Int32), g)
def qX5_prepare_2 (x : zXx)  (o : (Int32 × zS) ⊕ zS) : Prop := match o with
  | .inl s => zK x 3 2 [(0, .ref 20), (1, .int s.1)] [] zD s.2 0 0
  | .inr r => ztg x = (.inl none, zD, r)
def qX5_prepare_95 (x : zXx)  (o : (Int32 × zS) ⊕ zS) : Prop := match o with
  | .inl s => zK x 3 95 [(0, .ref 20), (1, .int s.1)] [] zD s.2 0 0
  | .inr r => ztg x = (.inl none, zD, r)
def qX5_prepare_108 (x : zXx) (a1 : Int32) (o : (Int32 × zS) ⊕ ((Int32 × zS) ⊕ zS)) : Prop := match o with
  | .inl s => zK x 3 108 [(0, .ref 20), (1, .int a1), (2, .int s.1)] [] zD s.2 0 0
  | .inr r => qX5_prepare_95 x  r
def qX5_prepare_23 (x : zXx) (a1 : Int32) (o : (Int32 × Int32 × zS) ⊕ ((Int32 × zS) ⊕ zS)) : Prop := match o with
  | .inl s => zK x 3 23 [(0, .ref 20), (1, .int a1), (2, .int s.1), (3, .int s.2.1)] [] zD s.2.2 0 0
  | .inr r => qX5_prepare_2 x  r
set_option maxHeartbeats 60000 in
theorem kwX5_prepare_108 {x : zXx} (hG : zG x cX5_prepare 5 RX5 ((Option.none : Option Jvm.ClassFile.FieldType))) (hl0 : (zl0 x).flags = flags0) (a1 : Int32) {o : ((Int32 × zS) ⊕ zS)} (hk : qX5_prepare_95 x  o) : ∀ s : (Int32 × zS), wh (wX5_prepare_108 a1) s = some o → zK x 3 108 [(0, .ref 20), (1, .int a1), (2, .int s.1)] [] zD s.2 0 0 := by
  refine wh_ind (fun s : (Int32 × zS) => zK x 3 108 [(0, .ref 20), (1, .int a1), (2, .int s.1)] [] zD s.2 0 0) (fun s o h hk2 => ?_)
  replace hk : qX5_prepare_108 x a1 o := by
    cases o with
    | inl s => exact hk2
    | inr r => subst hk2; exact hk
  clear hk2
  unfold wX5_prepare_108 at h
  refine z_iload_n (pc := 108) hG 2 rfl rfl dX5_prepare_108 ?_
  refine z_iconst (pc := 109) hG kc_1 dX5_prepare_109 ?_
  refine z_iload_n (pc := 110) hG 1 rfl rfl dX5_prepare_110 ?_
  refine z_ishl (pc := 111) hG dX5_prepare_111 ?_
  refine z_icmp_ge (pc := 112) (tgt := 150) hG dX5_prepare_112 rfl (fun hc => ?_) (fun hc => ?_)
  · replace h := zif_t hc h
    replace h := zex_some h
    obtain ⟨o, h, rfl⟩ := h
    refine z_iinc (pc := 150) (ls' := [(1, .int (a1 + (1 : Int32))), (0, .ref 20), (2, .int s.1)]) hG 1 rfl [0, 1, 2] (ki_1 _) (by decide) rfl dX5_prepare_150 ?_
    refine z_goto (pc := 153) (tgt := 95) hG dX5_prepare_153 rfl ?_
    obtain rfl := Option.some.inj h
    refine z_sub (ls' := [(0, .ref 20), (1, .int (a1 + (1 : Int32)))]) [1, 0] rfl ?_
    exact hk
  · replace h := zif_f hc h
    refine z_aload_n (pc := 115) hG 0 rfl rfl dX5_prepare_115 ?_
    refine z_getr (pc := 116) hG zc_X5 inX5 DL_20 3 rfl (by decide) rfl w622 dX5_prepare_116 ?_
    refine z_iload_n (pc := 119) hG 2 rfl rfl dX5_prepare_119 ?_
    refine z_iconst (pc := 120) hG kc_1 dX5_prepare_120 ?_
    refine z_iload_n (pc := 121) hG 1 rfl rfl dX5_prepare_121 ?_
    refine z_ishl (pc := 122) hG dX5_prepare_122 ?_
    refine z_ior (pc := 123) hG dX5_prepare_123 ?_
    refine z_aload_n (pc := 124) hG 0 rfl rfl dX5_prepare_124 ?_
    refine z_aload_n (pc := 125) hG 0 rfl rfl dX5_prepare_125 ?_
    refine z_getr (pc := 126) hG zc_X5 inX5 DL_20 3 rfl (by decide) rfl w622 dX5_prepare_126 ?_
    refine z_iload_n (pc := 129) hG 2 rfl rfl dX5_prepare_129 ?_
    replace h := zchk_some h
    obtain ⟨hc, h⟩ := h
    refine z_lald (pc := 130) hG DL_23 (zin_in hc) dX5_prepare_130 ?_
    refine z_iload_n (pc := 131) hG 1 rfl rfl dX5_prepare_131 ?_
    refine z_aload_n (pc := 132) hG 0 rfl rfl dX5_prepare_132 ?_
    refine z_getr (pc := 133) hG zc_X5 inX5 DL_20 0 rfl (by decide) rfl w619 dX5_prepare_133 ?_
    refine z_iload_n (pc := 136) hG 1 rfl rfl dX5_prepare_136 ?_
    replace h := zbind h
    obtain ⟨v5, hv5, h⟩ := h
    refine z_cvI (pc := 137) (A' := 0) (B' := 0) hG [.int a1] [.int a1, .long (s.2.2.1 23 s.1.toNatClampNeg), .ref 20, .int (s.1 ||| ((1 : Int32) <<< (a1 &&& 31))), .ref 23] zc_X6 DL_3 (tX6_allValues hl0 a1 s.2 hv5) zy_X6_allValues ⟨w208, w209⟩ w1230 dX5_prepare_137 rfl (Nat.le_of_ble_eq_true rfl) rfl rfl rfl (Nat.le_of_ble_eq_true rfl) rfl ?_
    replace h := zbind h
    obtain ⟨v6, hv6, h⟩ := h
    refine z_cvJ (pc := 140) (A' := 0) (B' := 0) hG [.long (s.2.2.1 23 s.1.toNatClampNeg), .int a1, .int v5] [.int (s.1 ||| ((1 : Int32) <<< (a1 &&& 31))), .ref 23] zc_X5 DL_20 (tX5_aheadOf hl0 (s.2.2.1 23 s.1.toNatClampNeg) a1 v5 s.2 hv6) zy_X5_aheadOf ⟨w159, w160⟩ w1231 dX5_prepare_140 rfl (Nat.le_of_ble_eq_true rfl) rfl rfl rfl (Nat.le_of_ble_eq_true rfl) rfl ?_
    replace h := zchk_some h
    obtain ⟨hc, h⟩ := h
    refine z_last (pc := 143) hG DL_23 (zin_in hc) dX5_prepare_143 ?_
    refine z_iinc (pc := 144) (ls' := [(2, .int (s.1 + (1 : Int32))), (0, .ref 20), (1, .int a1)]) hG 2 rfl [0, 1, 2] (ki_1 _) (by decide) rfl dX5_prepare_144 ?_
    refine z_goto (pc := 147) (tgt := 108) hG dX5_prepare_147 rfl ?_
    obtain rfl := Option.some.inj h
    refine z_sub (ls' := [(0, .ref 20), (1, .int a1), (2, .int (s.1 + (1 : Int32)))]) [1, 2, 0] rfl ?_
    exact hk
set_option maxHeartbeats 60000 in
theorem kwX5_prepare_95 {x : zXx} (hG : zG x cX5_prepare 5 RX5 ((Option.none : Option Jvm.ClassFile.FieldType))) (hl0 : (zl0 x).flags = flags0)  {o : zS} (hk : ztg x = (.inl none, zD, o)) : ∀ s : (Int32 × zS), wh (wX5_prepare_95 ) s = some o → zK x 3 95 [(0, .ref 20), (1, .int s.1)] [] zD s.2 0 0 := by
  refine wh_ind (fun s : (Int32 × zS) => zK x 3 95 [(0, .ref 20), (1, .int s.1)] [] zD s.2 0 0) (fun s o h hk2 => ?_)
  replace hk : qX5_prepare_95 x  o := by
    cases o with
    | inl s => exact hk2
    | inr r => subst hk2; exact hk
  clear hk2
  unfold wX5_prepare_95 at h
  refine z_iload_n (pc := 95) hG 1 rfl rfl dX5_prepare_95 ?_
  refine z_aload_n (pc := 96) hG 0 rfl rfl dX5_prepare_96 ?_
  refine z_getr (pc := 97) hG zc_X5 inX5 DL_20 0 rfl (by decide) rfl w619 dX5_prepare_97 ?_
  refine z_geti (pc := 100) hG zc_X6 inX6 DL_3 0 rfl (by decide) rfl w533 dX5_prepare_100 ?_
  refine z_icmp_ge (pc := 103) (tgt := 156) hG dX5_prepare_103 rfl (fun hc => ?_) (fun hc => ?_)
  · replace h := zif_t hc h
    replace h := zex_some h
    obtain ⟨o, h, rfl⟩ := h
    refine z_aload_n (pc := 156) hG 0 rfl rfl dX5_prepare_156 ?_
    replace h := zbind h
    obtain ⟨v1, hv1, h⟩ := h
    refine z_cvV (pc := 157) (A' := 0) (B' := 0) hG [] [] zc_X5 DL_20 (tX5_sortSets hl0  s.2 hv1) zy_X5_sortSets ⟨w1234, wp41⟩ w1232 dX5_prepare_157 rfl (Nat.le_of_ble_eq_true rfl) rfl rfl rfl (Nat.le_of_ble_eq_true rfl) rfl ?_
    refine z_aload_n (pc := 160) hG 0 rfl rfl dX5_prepare_160 ?_
    refine z_aload_n (pc := 161) hG 0 rfl rfl dX5_prepare_161 ?_
    refine z_aload_n (pc := 162) hG 0 rfl rfl dX5_prepare_162 ?_
    refine z_getr (pc := 163) hG zc_X5 inX5 DL_20 0 rfl (by decide) rfl w619 dX5_prepare_163 ?_
    replace h := zbind h
    obtain ⟨v2, hv2, h⟩ := h
    refine z_cvI (pc := 166) (A' := 0) (B' := 0) hG [] [.ref 20, .ref 20] zc_X6 DL_3 (tX6_allEdits hl0  v1 hv2) zy_X6_allEdits ⟨w255, w256⟩ w254 dX5_prepare_166 rfl (Nat.le_of_ble_eq_true rfl) rfl rfl rfl (Nat.le_of_ble_eq_true rfl) rfl ?_
    refine z_aload_n (pc := 169) hG 0 rfl rfl dX5_prepare_169 ?_
    refine z_getr (pc := 170) hG zc_X5 inX5 DL_20 0 rfl (by decide) rfl w619 dX5_prepare_170 ?_
    replace h := zbind h
    obtain ⟨v3, hv3, h⟩ := h
    refine z_cvI (pc := 173) (A' := 0) (B' := 0) hG [] [.int v2, .ref 20, .ref 20] zc_X6 DL_3 (tX6_allFields hl0  v1 hv3) zy_X6_allFields ⟨w316, w317⟩ w355 dX5_prepare_173 rfl (Nat.le_of_ble_eq_true rfl) rfl rfl rfl (Nat.le_of_ble_eq_true rfl) rfl ?_
    replace h := zbind h
    obtain ⟨v4, hv4, h⟩ := h
    refine z_cvI (pc := 176) (A' := 0) (B' := 0) hG [.int v2, .int v3] [.ref 20] zc_X5 DL_20 (tX5_tallyPassing hl0 v2 v3 v1 hv4) zy_X5_tallyPassing ⟨w338, wp15⟩ w336 dX5_prepare_176 rfl (Nat.le_of_ble_eq_true rfl) rfl rfl rfl (Nat.le_of_ble_eq_true rfl) rfl ?_
    refine z_puti (pc := 179) hG zc_X5 inX5 tyX5 tyX5_ok nmX5 DL_20 6 rfl (by decide) rfl w625 rfl rfl rfl dX5_prepare_179 ?_
    obtain rfl := Option.some.inj h
    exact z_vret (pc := 182) hG rfl hk dX5_prepare_182
  · replace h := zif_f hc h
    refine z_iconst (pc := 106) hG kc_0 dX5_prepare_106 ?_
    refine z_istore_n (pc := 107) (ls' := [(2, .int (0 : Int32)), (0, .ref 20), (1, .int s.1)]) hG [0, 1, 2] rfl (by decide) rfl dX5_prepare_107 ?_
    refine z_sub (ls' := [(0, .ref 20), (1, .int s.1), (2, .int (0 : Int32))]) [1, 2, 0] rfl ?_
    exact kwX5_prepare_108 hG hl0 s.1 hk ((0 : Int32), s.2) h
set_option maxHeartbeats 60000 in
theorem kwX5_prepare_23 {x : zXx} (hG : zG x cX5_prepare 5 RX5 ((Option.none : Option Jvm.ClassFile.FieldType))) (hl0 : (zl0 x).flags = flags0) (a1 : Int32) {o : ((Int32 × zS) ⊕ zS)} (hk : qX5_prepare_2 x  o) : ∀ s : (Int32 × Int32 × zS), wh (wX5_prepare_23 a1) s = some o → zK x 3 23 [(0, .ref 20), (1, .int a1), (2, .int s.1), (3, .int s.2.1)] [] zD s.2.2 0 0 := by
  refine wh_ind (fun s : (Int32 × Int32 × zS) => zK x 3 23 [(0, .ref 20), (1, .int a1), (2, .int s.1), (3, .int s.2.1)] [] zD s.2.2 0 0) (fun s o h hk2 => ?_)
  replace hk : qX5_prepare_23 x a1 o := by
    cases o with
    | inl s => exact hk2
    | inr r => subst hk2; exact hk
  clear hk2
  unfold wX5_prepare_23 at h
  refine z_iload_n (pc := 23) hG 3 rfl rfl dX5_prepare_23 ?_
  refine z_aload_n (pc := 24) hG 0 rfl rfl dX5_prepare_24 ?_
  refine z_getr (pc := 25) hG zc_X5 inX5 DL_20 0 rfl (by decide) rfl w619 dX5_prepare_25 ?_
  refine z_getr (pc := 28) hG zc_X6 inX6 DL_3 1 rfl (by decide) rfl w539 dX5_prepare_28 ?_
  refine z_iload_n (pc := 31) hG 1 rfl rfl dX5_prepare_31 ?_
  replace h := zchk_some h
  obtain ⟨hc, h⟩ := h
  refine z_iald (pc := 32) hG DL_4 (zin_in hc) dX5_prepare_32 ?_
  refine z_icmp_ge (pc := 33) (tgt := 70) hG dX5_prepare_33 rfl (fun hc => ?_) (fun hc => ?_)
  · replace h := zif_t hc h
    replace h := zex_some h
    obtain ⟨o, h, rfl⟩ := h
    refine z_aload_n (pc := 70) hG 0 rfl rfl dX5_prepare_70 ?_
    refine z_getr (pc := 71) hG zc_X5 inX5 DL_20 1 rfl (by decide) rfl w620 dX5_prepare_71 ?_
    refine z_iload_n (pc := 74) hG 1 rfl rfl dX5_prepare_74 ?_
    refine z_bipush (pc := 75) hG kb_6 dX5_prepare_75 ?_
    refine z_imul (pc := 77) hG dX5_prepare_77 ?_
    refine z_iload_n (pc := 78) hG 2 rfl rfl dX5_prepare_78 ?_
    replace h := zchk_some h
    obtain ⟨hc, h⟩ := h
    refine z_iast (pc := 79) hG DL_21 (zin_in hc) dX5_prepare_79 ?_
    refine z_iinc (pc := 80) (ls' := [(1, .int (a1 + (1 : Int32))), (0, .ref 20), (2, .int s.1), (3, .int s.2.1)]) hG 1 rfl [0, 1, 2, 3] (ki_1 _) (by decide) rfl dX5_prepare_80 ?_
    refine z_goto (pc := 83) (tgt := 2) hG dX5_prepare_83 rfl ?_
    obtain rfl := Option.some.inj h
    refine z_sub (ls' := [(0, .ref 20), (1, .int (a1 + (1 : Int32)))]) [1, 0] rfl ?_
    exact hk
  · replace h := zif_f hc h
    refine z_aload_n (pc := 36) hG 0 rfl rfl dX5_prepare_36 ?_
    refine z_iload_n (pc := 37) hG 1 rfl rfl dX5_prepare_37 ?_
    refine z_iload_n (pc := 38) hG 3 rfl rfl dX5_prepare_38 ?_
    replace h := zbind h
    obtain ⟨v8, hv8, h⟩ := h
    refine z_cvI (pc := 39) (A' := 0) (B' := 0) hG [.int a1, .int s.2.1] [] zc_X5 DL_20 (tX5_editsWith hl0 a1 s.2.1 s.2.2 hv8) zy_X5_editsWith ⟨w1224, wp40⟩ w1222 dX5_prepare_39 rfl (Nat.le_of_ble_eq_true rfl) rfl rfl rfl (Nat.le_of_ble_eq_true rfl) rfl ?_
    refine z_istore (pc := 42) (ls' := [(4, .int v8), (0, .ref 20), (1, .int a1), (2, .int s.1), (3, .int s.2.1)]) hG [0, 1, 2, 3, 4] (by decide) rfl dX5_prepare_42 ?_
    refine z_aload_n (pc := 44) hG 1 rfl rfl dX5_prepare_44 ?_
    refine z_getr (pc := 45) hG zc_X5 inX5 DL_20 1 rfl (by decide) rfl w620 dX5_prepare_45 ?_
    refine z_iload_n (pc := 48) hG 2 rfl rfl dX5_prepare_48 ?_
    refine z_bipush (pc := 49) hG kb_6 dX5_prepare_49 ?_
    refine z_imul (pc := 51) hG dX5_prepare_51 ?_
    refine z_iconst (pc := 52) hG kc_1 dX5_prepare_52 ?_
    refine z_iadd (pc := 53) hG dX5_prepare_53 ?_
    refine z_iload_n (pc := 54) hG 4 rfl rfl dX5_prepare_54 ?_
    refine z_iadd (pc := 55) hG dX5_prepare_55 ?_
    refine z_iload (pc := 56) hG 0 rfl dX5_prepare_56 ?_
    replace h := zchk_some h
    obtain ⟨hc, h⟩ := h
    refine z_iast (pc := 58) hG DL_21 (zin_in hc) dX5_prepare_58 ?_
    refine z_iload_n (pc := 59) hG 3 rfl rfl dX5_prepare_59 ?_
    refine z_iload (pc := 60) hG 0 rfl dX5_prepare_60 ?_
    refine z_iand (pc := 62) hG dX5_prepare_62 ?_
    refine z_istore_n (pc := 63) (ls' := [(2, .int (s.1 &&& v8)), (4, .int v8), (0, .ref 20), (1, .int a1), (3, .int s.2.1)]) hG [0, 1, 2, 3, 4] rfl (by decide) rfl dX5_prepare_63 ?_
    refine z_iinc (pc := 64) (ls' := [(3, .int (s.2.1 + (1 : Int32))), (2, .int (s.1 &&& v8)), (4, .int v8), (0, .ref 20), (1, .int a1)]) hG 4 rfl [0, 1, 2, 3, 4] (ki_1 _) (by decide) rfl dX5_prepare_64 ?_
    refine z_goto (pc := 67) (tgt := 23) hG dX5_prepare_67 rfl ?_
    obtain rfl := Option.some.inj h
    refine z_sub (ls' := [(0, .ref 20), (1, .int a1), (2, .int (s.1 &&& v8)), (3, .int (s.2.1 + (1 : Int32)))]) [3, 4, 1, 0] rfl ?_
    exact hk
set_option maxHeartbeats 60000 in
theorem kwX5_prepare_2 {x : zXx} (hG : zG x cX5_prepare 5 RX5 ((Option.none : Option Jvm.ClassFile.FieldType))) (hl0 : (zl0 x).flags = flags0)  {o : zS} (hk : ztg x = (.inl none, zD, o)) : ∀ s : (Int32 × zS), wh (wX5_prepare_2 ) s = some o → zK x 3 2 [(0, .ref 20), (1, .int s.1)] [] zD s.2 0 0 := by
  refine wh_ind (fun s : (Int32 × zS) => zK x 3 2 [(0, .ref 20), (1, .int s.1)] [] zD s.2 0 0) (fun s o h hk2 => ?_)
  replace hk : qX5_prepare_2 x  o := by
    cases o with
    | inl s => exact hk2
    | inr r => subst hk2; exact hk
  clear hk2
  unfold wX5_prepare_2 at h
  refine z_iload_n (pc := 2) hG 1 rfl rfl dX5_prepare_2 ?_
  refine z_aload_n (pc := 3) hG 0 rfl rfl dX5_prepare_3 ?_
  refine z_getr (pc := 4) hG zc_X5 inX5 DL_20 0 rfl (by decide) rfl w619 dX5_prepare_4 ?_
  refine z_geti (pc := 7) hG zc_X6 inX6 DL_3 0 rfl (by decide) rfl w533 dX5_prepare_7 ?_
  refine z_icmp_ge (pc := 10) (tgt := 86) hG dX5_prepare_10 rfl (fun hc => ?_) (fun hc => ?_)
  · replace h := zif_t hc h
    replace h := zex_some h
    obtain ⟨o, h, rfl⟩ := h
    refine z_aload_n (pc := 86) hG 0 rfl rfl dX5_prepare_86 ?_
    refine z_getr (pc := 87) hG zc_X5 inX5 DL_20 3 rfl (by decide) rfl w622 dX5_prepare_87 ?_
    refine z_iconst (pc := 90) hG kc_0 dX5_prepare_90 ?_
    refine z_lconst (pc := 91) hG kl_1 dX5_prepare_91 ?_
    replace h := zchk_some h
    obtain ⟨hc, h⟩ := h
    refine z_last (pc := 92) hG DL_23 (zin_in hc) dX5_prepare_92 ?_
    refine z_iconst (pc := 93) hG kc_0 dX5_prepare_93 ?_
    refine z_istore_n (pc := 94) (ls' := [(1, .int (0 : Int32)), (0, .ref 20)]) hG [0, 1] rfl (by decide) rfl dX5_prepare_94 ?_
    refine z_sub (ls' := [(0, .ref 20), (1, .int (0 : Int32))]) [1, 0] rfl ?_
    exact kwX5_prepare_95 hG hl0  hk ((0 : Int32), (zl s.2 23 (0 : Int32).toNatClampNeg (1 : Int64))) h
  · replace h := zif_f hc h
    refine z_aload_n (pc := 13) hG 0 rfl rfl dX5_prepare_13 ?_
    refine z_getr (pc := 14) hG zc_X5 inX5 DL_20 0 rfl (by decide) rfl w619 dX5_prepare_14 ?_
    replace h := zbind h
    obtain ⟨v7, hv7, h⟩ := h
    refine z_cvI (pc := 17) (A' := 0) (B' := 0) hG [] [] zc_X6 DL_3 (tX6_allEdits hl0  s.2 hv7) zy_X6_allEdits ⟨w255, w256⟩ w254 dX5_prepare_17 rfl (Nat.le_of_ble_eq_true rfl) rfl rfl rfl (Nat.le_of_ble_eq_true rfl) rfl ?_
    refine z_istore_n (pc := 20) (ls' := [(2, .int v7), (0, .ref 20), (1, .int s.1)]) hG [0, 1, 2] rfl (by decide) rfl dX5_prepare_20 ?_
    refine z_iconst (pc := 21) hG kc_0 dX5_prepare_21 ?_
    refine z_istore_n (pc := 22) (ls' := [(3, .int (0 : Int32)), (2, .int v7), (0, .ref 20), (1, .int s.1)]) hG [0, 1, 2, 3] rfl (by decide) rfl dX5_prepare_22 ?_
    refine z_sub (ls' := [(0, .ref 20), (1, .int s.1), (2, .int v7), (3, .int (0 : Int32))]) [2, 3, 1, 0] rfl ?_
    exact kwX5_prepare_23 hG hl0 s.1 hk (v7, (0 : Int32), s.2) h
set_option maxHeartbeats 60000 in
theorem tX5_prepare {l : Launch} (hl0 : l.flags = flags0) (g : zS) {r : zS} (h : nX5_prepare g = some r) : zC l yX5_prepare cX5_prepare 5 ((Option.none : Option Jvm.ClassFile.FieldType)) 3 0 0 [.ref 20] zD g (.inl none, zD, r) := by
  refine zC_of hl0 rfl (Nat.le_of_ble_eq_true rfl) (fun x hG hxl hk _ => ?_)
  subst hxl
  show zK x 3 0 [(0, .ref 20)] [] zD g 0 0
  unfold nX5_prepare at h
  refine z_iconst (pc := 0) hG kc_0 dX5_prepare_0 ?_
  refine z_istore_n (pc := 1) (ls' := [(1, .int (0 : Int32)), (0, .ref 20)]) hG [0, 1] rfl (by decide) rfl dX5_prepare_1 ?_
  refine z_sub (ls' := [(0, .ref 20), (1, .int (0 : Int32))]) [1, 0] rfl ?_
  exact kwX5_prepare_2 hG hl0  hk ((0 : Int32), g) h
noncomputable def nX0_forget (g : zS) : Option zS :=
  some ((zi g 26 4 (0 : Int32)))
set_option maxHeartbeats 60000 in
theorem tX0_forget {l : Launch} (hl0 : l.flags = flags0) (g : zS) {r : zS} (h : nX0_forget g = some r) : zC l yX0_forget cX0_forget 1 ((Option.none : Option Jvm.ClassFile.FieldType)) 0 0 0 [.ref 26] zD g (.inl none, zD, r) := by
  refine zC_of hl0 rfl (Nat.le_of_ble_eq_true rfl) (fun x hG hxl hk _ => ?_)
  subst hxl
  show zK x 0 0 [(0, .ref 26)] [] zD g 0 0
  unfold nX0_forget at h
  refine z_aload_n (pc := 0) hG 0 rfl rfl dX0_forget_0 ?_
  refine z_iconst (pc := 1) hG kc_0 dX0_forget_1 ?_
  refine z_puti (pc := 2) hG zc_X0 inX0 tyX0 tyX0_ok nmX0 DL_26 4 rfl (by decide) rfl w652 rfl rfl rfl dX0_forget_2 ?_
  obtain rfl := Option.some.inj h
  exact z_vret (pc := 5) hG rfl hk dX0_forget_5
noncomputable def nX8_start (g : zS) : Option zS :=
  zchk (zcpo (0 : Int32) (0 : Int32) (40 : Int32) 40 40) (some ((zi (zcpy (zi g 31 1 (g.1 3 9)) 10 32 (0 : Int32) (0 : Int32) (40 : Int32)) 31 2 (0 : Int32))))
set_option maxHeartbeats 60000 in
theorem tX8_start {l : Launch} (hl0 : l.flags = flags0) (g : zS) {r : zS} (h : nX8_start g = some r) : zC l yX8_start cX8_start 2 ((Option.none : Option Jvm.ClassFile.FieldType)) 0 0 0 [.ref 31, .ref 3] zD g (.inl none, zD, r) := by
  refine zC_of hl0 rfl (Nat.le_of_ble_eq_true rfl) (fun x hG hxl hk _ => ?_)
  subst hxl
  show zK x 0 0 [(0, .ref 31), (1, .ref 3)] [] zD g 0 0
  unfold nX8_start at h
  refine z_aload_n (pc := 0) hG 0 rfl rfl dX8_start_0 ?_
  refine z_aload_n (pc := 1) hG 1 rfl rfl dX8_start_1 ?_
  refine z_geti (pc := 2) hG zc_X6 inX6 DL_3 9 rfl (by decide) rfl w563 dX8_start_2 ?_
  refine z_puti (pc := 5) hG zc_X8 inX8 tyX8 tyX8_ok nmX8 DL_31 1 rfl (by decide) rfl w682 rfl rfl rfl dX8_start_5 ?_
  refine z_aload_n (pc := 8) hG 1 rfl rfl dX8_start_8 ?_
  refine z_getr (pc := 9) hG zc_X6 inX6 DL_3 10 rfl (by decide) rfl w567 dX8_start_9 ?_
  refine z_iconst (pc := 12) hG kc_0 dX8_start_12 ?_
  refine z_aload_n (pc := 13) hG 0 rfl rfl dX8_start_13 ?_
  refine z_getr (pc := 14) hG zc_X8 inX8 DL_31 0 rfl (by decide) rfl w679 dX8_start_14 ?_
  refine z_iconst (pc := 17) hG kc_0 dX8_start_17 ?_
  refine z_bipush (pc := 18) hG kb_40 dX8_start_18 ?_
  replace h := zchk_some h
  obtain ⟨hc, h⟩ := h
  refine z_copyI (pc := 20) hG DL_10 DL_32 w1248 w186 w185 w18 (Nat.le_of_ble_eq_true rfl) hc dX8_start_20 ?_
  refine z_aload_n (pc := 23) hG 0 rfl rfl dX8_start_23 ?_
  refine z_iconst (pc := 24) hG kc_0 dX8_start_24 ?_
  refine z_puti (pc := 25) hG zc_X8 inX8 tyX8 tyX8_ok nmX8 DL_31 2 rfl (by decide) rfl w686 rfl rfl rfl dX8_start_25 ?_
  obtain rfl := Option.some.inj h
  exact z_vret (pc := 28) hG rfl hk dX8_start_28
noncomputable def wX3_met_5 (a2 : Int32) (g : zS) (s : (Int64 × Int32)) : Option ((Int64 × Int32) ⊕ Int64) :=
  if (6 : Int32) ≤ s.2 then (zex (some (s.1))) else (if ((a2 >>> (s.2 &&& 31)) &&& (1 : Int32)) = 0 then (zchk (zin s.2 6) (some (.inl (((s.1 &&& (zwith.getD s.2.toNatClampNeg 0)) ||| (((s.1 &&& (zwith.getD s.2.toNatClampNeg 0)).toUInt64 >>> (((1 : Int32) <<< (s.2 &&& 31)).toInt64.toUInt64 &&& Int64.toUInt64 63)).toInt64)), (s.2 + (1 : Int32)))))) else (some (.inl (s.1, (s.2 + (1 : Int32))))))
noncomputable def nX3_met (a0 : Int64) (a2 : Int32) (g : zS) : Option Int64 :=
  wh (wX3_met_5 a2 g) (a0, (0 : Int32))
def qX3_met_5 (x : zXx) (a2 : Int32) (g : zS) (o : (Int64 × Int32) ⊕ Int64) : Prop := match o with
  | .inl s => zK x 0 5 [(2, .int a2), (3, .long s.1), (5, .int s.2)] [] zD g 0 0
  | .inr r => ztg x = (.inl (some (.long r)), zD, g)
set_option maxHeartbeats 60000 in
theorem kwX3_met_5 {x : zXx} (hG : zG x cX3_met 6 RX3 ((Option.some Jvm.ClassFile.FieldType.long))) (hl0 : (zl0 x).flags = flags0) (a2 : Int32) (g : zS) {o : Int64} (hk : ztg x = (.inl (some (.long o)), zD, g)) : ∀ s : (Int64 × Int32), wh (wX3_met_5 a2 g) s = some o → zK x 0 5 [(2, .int a2), (3, .long s.1), (5, .int s.2)] [] zD g 0 0 := by
  refine wh_ind (fun s : (Int64 × Int32) => zK x 0 5 [(2, .int a2), (3, .long s.1), (5, .int s.2)] [] zD g 0 0) (fun s o h hk2 => ?_)
  replace hk : qX3_met_5 x a2 g o := by
    cases o with
    | inl s => exact hk2
    | inr r => subst hk2; exact hk
  clear hk2
  unfold wX3_met_5 at h
  refine z_iload (pc := 5) hG 2 rfl dX3_met_5 ?_
  refine z_bipush (pc := 7) hG kb_6 dX3_met_7 ?_
  refine z_icmp_ge (pc := 9) (tgt := 45) hG dX3_met_9 rfl (fun hc => ?_) (fun hc => ?_)
  · replace h := zif_t hc h
    replace h := zex_some h
    obtain ⟨o, h, rfl⟩ := h
    refine z_lload_n (pc := 45) hG 1 rfl rfl dX3_met_45 ?_
    obtain rfl := Option.some.inj h
    exact z_lret (pc := 46) hG rfl hk dX3_met_46
  · replace h := zif_f hc h
    refine z_iload_n (pc := 12) hG 0 rfl rfl dX3_met_12 ?_
    refine z_iload (pc := 13) hG 2 rfl dX3_met_13 ?_
    refine z_ishr (pc := 15) hG dX3_met_15 ?_
    refine z_iconst (pc := 16) hG kc_1 dX3_met_16 ?_
    refine z_iand (pc := 17) hG dX3_met_17 ?_
    refine z_if_ne (pc := 18) (tgt := 39) hG dX3_met_18 rfl (fun hc => ?_) (fun hc => ?_)
    · replace h := zif_f hc h
      refine z_iinc (pc := 39) (ls' := [(5, .int (s.2 + (1 : Int32))), (2, .int a2), (3, .long s.1)]) hG 2 rfl [0, 1, 2] (ki_1 _) (by decide) rfl dX3_met_39 ?_
      refine z_goto (pc := 42) (tgt := 5) hG dX3_met_42 rfl ?_
      obtain rfl := Option.some.inj h
      refine z_sub (ls' := [(2, .int a2), (3, .long s.1), (5, .int (s.2 + (1 : Int32)))]) [1, 2, 0] rfl ?_
      exact hk
    · replace h := zif_t hc h
      refine z_lload_n (pc := 21) hG 1 rfl rfl dX3_met_21 ?_
      replace h := zchk_some h
      obtain ⟨hc, h⟩ := h
      refine z_with (pc := 22) (k := 2) hG w151 rfl (zin_in hc) dX3_met_22 dX3_met_25 dX3_met_27 ?_
      refine z_land (pc := 28) hG dX3_met_28 ?_
      refine z_lstore_n (pc := 29) (ls' := [(3, .long (s.1 &&& (zwith.getD s.2.toNatClampNeg 0))), (2, .int a2), (5, .int s.2)]) hG [0, 1, 2] rfl (by decide) rfl dX3_met_29 ?_
      refine z_lload_n (pc := 30) hG 0 rfl rfl dX3_met_30 ?_
      refine z_lload_n (pc := 31) hG 0 rfl rfl dX3_met_31 ?_
      refine z_iconst (pc := 32) hG kc_1 dX3_met_32 ?_
      refine z_iload (pc := 33) hG 2 rfl dX3_met_33 ?_
      refine z_ishl (pc := 35) hG dX3_met_35 ?_
      refine z_lushr (pc := 36) hG dX3_met_36 ?_
      refine z_lor (pc := 37) hG dX3_met_37 ?_
      refine z_lstore_n (pc := 38) (ls' := [(3, .long ((s.1 &&& (zwith.getD s.2.toNatClampNeg 0)) ||| (((s.1 &&& (zwith.getD s.2.toNatClampNeg 0)).toUInt64 >>> (((1 : Int32) <<< (s.2 &&& 31)).toInt64.toUInt64 &&& Int64.toUInt64 63)).toInt64))), (2, .int a2), (5, .int s.2)]) hG [0, 1, 2] rfl (by decide) rfl dX3_met_38 ?_
      refine z_iinc (pc := 39) (ls' := [(5, .int (s.2 + (1 : Int32))), (3, .long ((s.1 &&& (zwith.getD s.2.toNatClampNeg 0)) ||| (((s.1 &&& (zwith.getD s.2.toNatClampNeg 0)).toUInt64 >>> (((1 : Int32) <<< (s.2 &&& 31)).toInt64.toUInt64 &&& Int64.toUInt64 63)).toInt64))), (2, .int a2)]) hG 2 rfl [0, 1, 2] (ki_1 _) (by decide) rfl dX3_met_39 ?_
      refine z_goto (pc := 42) (tgt := 5) hG dX3_met_42 rfl ?_
      obtain rfl := Option.some.inj h
      refine z_sub (ls' := [(2, .int a2), (3, .long ((s.1 &&& (zwith.getD s.2.toNatClampNeg 0)) ||| (((s.1 &&& (zwith.getD s.2.toNatClampNeg 0)).toUInt64 >>> (((1 : Int32) <<< (s.2 &&& 31)).toInt64.toUInt64 &&& Int64.toUInt64 63)).toInt64))), (5, .int (s.2 + (1 : Int32)))]) [2, 1, 0] rfl ?_
      exact hk
set_option maxHeartbeats 60000 in
theorem tX3_met {l : Launch} (hl0 : l.flags = flags0) (a0 : Int64) (a2 : Int32) (g : zS) {r : Int64} (h : nX3_met a0 a2 g = some r) : zC l yX3_met cX3_met 6 ((Option.some Jvm.ClassFile.FieldType.long)) 0 0 0 [.long a0, .int a2] zD g (.inl (some (.long r)), zD, g) := by
  refine zC_of hl0 rfl (Nat.le_of_ble_eq_true rfl) (fun x hG hxl hk _ => ?_)
  subst hxl
  show zK x 0 0 [(0, .long a0), (2, .int a2)] [] zD g 0 0
  unfold nX3_met at h
  refine z_lload_n (pc := 0) hG 0 rfl rfl dX3_met_0 ?_
  refine z_lstore_n (pc := 1) (ls' := [(3, .long a0), (0, .long a0), (2, .int a2)]) hG [0, 1, 2] rfl (by decide) rfl dX3_met_1 ?_
  refine z_iconst (pc := 2) hG kc_0 dX3_met_2 ?_
  refine z_istore (pc := 3) (ls' := [(5, .int (0 : Int32)), (3, .long a0), (0, .long a0), (2, .int a2)]) hG [0, 1, 2, 3] (by decide) rfl dX3_met_3 ?_
  refine z_sub (ls' := [(2, .int a2), (3, .long a0), (5, .int (0 : Int32))]) [3, 1, 0] rfl ?_
  exact kwX3_met_5 hG hl0 a2 g hk (a0, (0 : Int32)) h
noncomputable def wX0_meetValues_4 (a1 : Int32) (s : (Int32 × Int32 × zS)) : Option ((Int32 × Int32 × zS) ⊕ (Int32 × zS)) :=
  zchk (zin a1 5) (if (s.2.2.1 4 a1.toNatClampNeg) ≤ s.2.1 then (zex (some ((s.1, s.2.2)))) else (zchk (zin a1 6) ((nX5_editsOfAnswer a1 s.2.1 s.2.2).bind fun v1 => (nX3_met (s.2.2.2.1 29 a1.toNatClampNeg) v1 s.2.2).bind fun v2 => zchk (zin ((a1 * (5 : Int32)) + s.2.1) 25) (if (lg_cmp v2 (-1 : Int64)) = 0 then (some (.inl (s.1, (s.2.1 + (1 : Int32)), (zl s.2.2 30 ((a1 * (5 : Int32)) + s.2.1).toNatClampNeg v2)))) else (some (.inl ((s.1 ||| ((1 : Int32) <<< (s.2.1 &&& 31))), (s.2.1 + (1 : Int32)), (zl s.2.2 30 ((a1 * (5 : Int32)) + s.2.1).toNatClampNeg v2))))))))
noncomputable def nX0_meetValues (a1 : Int32) (g : zS) : Option (Int32 × zS) :=
  wh (wX0_meetValues_4 a1) ((0 : Int32), (0 : Int32), g)
def qX0_meetValues_4 (x : zXx) (a1 : Int32) (o : (Int32 × Int32 × zS) ⊕ (Int32 × zS)) : Prop := match o with
  | .inl s => zK x 1 4 [(0, .ref 26), (1, .int a1), (2, .int s.1), (3, .int s.2.1)] [] zD s.2.2 0 0
  | .inr r => ztg x = (.inl (some (.int r.1)), zD, r.2)
set_option maxHeartbeats 60000 in
theorem kwX0_meetValues_4 {x : zXx} (hG : zG x cX0_meetValues 6 RX0 ((Option.some Jvm.ClassFile.FieldType.int))) (hl0 : (zl0 x).flags = flags0) (a1 : Int32) {o : (Int32 × zS)} (hk : ztg x = (.inl (some (.int o.1)), zD, o.2)) : ∀ s : (Int32 × Int32 × zS), wh (wX0_meetValues_4 a1) s = some o → zK x 1 4 [(0, .ref 26), (1, .int a1), (2, .int s.1), (3, .int s.2.1)] [] zD s.2.2 0 0 := by
  refine wh_ind (fun s : (Int32 × Int32 × zS) => zK x 1 4 [(0, .ref 26), (1, .int a1), (2, .int s.1), (3, .int s.2.1)] [] zD s.2.2 0 0) (fun s o h hk2 => ?_)
  replace hk : qX0_meetValues_4 x a1 o := by
    cases o with
    | inl s => exact hk2
    | inr r => subst hk2; exact hk
  clear hk2
  unfold wX0_meetValues_4 at h
  refine z_iload_n (pc := 4) hG 3 rfl rfl dX0_meetValues_4 ?_
  refine z_aload_n (pc := 5) hG 0 rfl rfl dX0_meetValues_5 ?_
  refine z_getr (pc := 6) hG zc_X0 inX0 DL_26 0 rfl (by decide) rfl w648 dX0_meetValues_6 ?_
  refine z_getr (pc := 9) hG zc_X6 inX6 DL_3 1 rfl (by decide) rfl w541 dX0_meetValues_9 ?_
  refine z_iload_n (pc := 12) hG 1 rfl rfl dX0_meetValues_12 ?_
  replace h := zchk_some h
  obtain ⟨hc, h⟩ := h
  refine z_iald (pc := 13) hG DL_4 (zin_in hc) dX0_meetValues_13 ?_
  refine z_icmp_ge (pc := 14) (tgt := 70) hG dX0_meetValues_14 rfl (fun hc => ?_) (fun hc => ?_)
  · replace h := zif_t hc h
    replace h := zex_some h
    obtain ⟨o, h, rfl⟩ := h
    refine z_iload_n (pc := 70) hG 2 rfl rfl dX0_meetValues_70 ?_
    obtain rfl := Option.some.inj h
    exact z_iret (pc := 71) hG rfl rfl hk dX0_meetValues_71
  · replace h := zif_f hc h
    refine z_aload_n (pc := 17) hG 0 rfl rfl dX0_meetValues_17 ?_
    refine z_getr (pc := 18) hG zc_X0 inX0 DL_26 6 rfl (by decide) rfl w654 dX0_meetValues_18 ?_
    refine z_iload_n (pc := 21) hG 1 rfl rfl dX0_meetValues_21 ?_
    replace h := zchk_some h
    obtain ⟨hc, h⟩ := h
    refine z_lald (pc := 22) hG DL_29 (zin_in hc) dX0_meetValues_22 ?_
    refine z_aload_n (pc := 23) hG 0 rfl rfl dX0_meetValues_23 ?_
    refine z_getr (pc := 24) hG zc_X0 inX0 DL_26 1 rfl (by decide) rfl w649 dX0_meetValues_24 ?_
    refine z_iload_n (pc := 27) hG 1 rfl rfl dX0_meetValues_27 ?_
    refine z_iload_n (pc := 28) hG 3 rfl rfl dX0_meetValues_28 ?_
    replace h := zbind h
    obtain ⟨v1, hv1, h⟩ := h
    refine z_cvI (pc := 29) (A' := 0) (B' := 0) hG [.int a1, .int s.2.1] [.long (s.2.2.2.1 29 a1.toNatClampNeg)] zc_X5 DL_20 (tX5_editsOfAnswer hl0 a1 s.2.1 s.2.2 hv1) zy_X5_editsOfAnswer ⟨w145, w146⟩ w144 dX0_meetValues_29 rfl (Nat.le_of_ble_eq_true rfl) rfl rfl rfl (Nat.le_of_ble_eq_true rfl) rfl ?_
    replace h := zbind h
    obtain ⟨v2, hv2, h⟩ := h
    refine z_csJ (pc := 32) (A' := 0) (B' := 0) hG [.long (s.2.2.2.1 29 a1.toNatClampNeg), .int v1] [] (tX3_met hl0 (s.2.2.2.1 29 a1.toNatClampNeg) v1 s.2.2 hv2) zy_X3_met w149 w148 dX0_meetValues_32 rfl (Nat.le_of_ble_eq_true rfl) rfl rfl rfl (Nat.le_of_ble_eq_true rfl) rfl ?_
    refine z_lstore (pc := 35) (ls' := [(4, .long v2), (0, .ref 26), (1, .int a1), (2, .int s.1), (3, .int s.2.1)]) hG [0, 1, 2, 3, 4] (by decide) rfl dX0_meetValues_35 ?_
    refine z_aload_n (pc := 37) hG 1 rfl rfl dX0_meetValues_37 ?_
    refine z_getr (pc := 38) hG zc_X0 inX0 DL_26 7 rfl (by decide) rfl w655 dX0_meetValues_38 ?_
    refine z_iload_n (pc := 41) hG 2 rfl rfl dX0_meetValues_41 ?_
    refine z_iconst (pc := 42) hG kc_5 dX0_meetValues_42 ?_
    refine z_imul (pc := 43) hG dX0_meetValues_43 ?_
    refine z_iload_n (pc := 44) hG 4 rfl rfl dX0_meetValues_44 ?_
    refine z_iadd (pc := 45) hG dX0_meetValues_45 ?_
    refine z_lload (pc := 46) hG 0 rfl dX0_meetValues_46 ?_
    replace h := zchk_some h
    obtain ⟨hc, h⟩ := h
    refine z_last (pc := 48) hG DL_30 (zin_in hc) dX0_meetValues_48 ?_
    refine z_lload (pc := 49) hG 0 rfl dX0_meetValues_49 ?_
    refine z_ldc2 (pc := 51) hG w153 dX0_meetValues_51 ?_
    refine z_lcmp (pc := 54) hG dX0_meetValues_54 ?_
    refine z_if_eq (pc := 55) (tgt := 64) hG dX0_meetValues_55 rfl (fun hc => ?_) (fun hc => ?_)
    · replace h := zif_t hc h
      refine z_iinc (pc := 64) (ls' := [(3, .int (s.2.1 + (1 : Int32))), (4, .long v2), (0, .ref 26), (1, .int a1), (2, .int s.1)]) hG 4 rfl [0, 1, 2, 3, 4] (ki_1 _) (by decide) rfl dX0_meetValues_64 ?_
      refine z_goto (pc := 67) (tgt := 4) hG dX0_meetValues_67 rfl ?_
      obtain rfl := Option.some.inj h
      refine z_sub (ls' := [(0, .ref 26), (1, .int a1), (2, .int s.1), (3, .int (s.2.1 + (1 : Int32)))]) [2, 3, 4, 0] rfl ?_
      exact hk
    · replace h := zif_f hc h
      refine z_iload_n (pc := 58) hG 3 rfl rfl dX0_meetValues_58 ?_
      refine z_iconst (pc := 59) hG kc_1 dX0_meetValues_59 ?_
      refine z_iload_n (pc := 60) hG 4 rfl rfl dX0_meetValues_60 ?_
      refine z_ishl (pc := 61) hG dX0_meetValues_61 ?_
      refine z_ior (pc := 62) hG dX0_meetValues_62 ?_
      refine z_istore_n (pc := 63) (ls' := [(2, .int (s.1 ||| ((1 : Int32) <<< (s.2.1 &&& 31)))), (4, .long v2), (0, .ref 26), (1, .int a1), (3, .int s.2.1)]) hG [0, 1, 2, 3, 4] rfl (by decide) rfl dX0_meetValues_63 ?_
      refine z_iinc (pc := 64) (ls' := [(3, .int (s.2.1 + (1 : Int32))), (2, .int (s.1 ||| ((1 : Int32) <<< (s.2.1 &&& 31)))), (4, .long v2), (0, .ref 26), (1, .int a1)]) hG 4 rfl [0, 1, 2, 3, 4] (ki_1 _) (by decide) rfl dX0_meetValues_64 ?_
      refine z_goto (pc := 67) (tgt := 4) hG dX0_meetValues_67 rfl ?_
      obtain rfl := Option.some.inj h
      refine z_sub (ls' := [(0, .ref 26), (1, .int a1), (2, .int (s.1 ||| ((1 : Int32) <<< (s.2.1 &&& 31)))), (3, .int (s.2.1 + (1 : Int32)))]) [3, 4, 1, 0] rfl ?_
      exact hk
set_option maxHeartbeats 60000 in
theorem tX0_meetValues {l : Launch} (hl0 : l.flags = flags0) (a1 : Int32) (g : zS) {r : (Int32 × zS)} (h : nX0_meetValues a1 g = some r) : zC l yX0_meetValues cX0_meetValues 6 ((Option.some Jvm.ClassFile.FieldType.int)) 1 0 0 [.ref 26, .int a1] zD g (.inl (some (.int r.1)), zD, r.2) := by
  refine zC_of hl0 rfl (Nat.le_of_ble_eq_true rfl) (fun x hG hxl hk _ => ?_)
  subst hxl
  show zK x 1 0 [(0, .ref 26), (1, .int a1)] [] zD g 0 0
  unfold nX0_meetValues at h
  refine z_iconst (pc := 0) hG kc_0 dX0_meetValues_0 ?_
  refine z_istore_n (pc := 1) (ls' := [(2, .int (0 : Int32)), (0, .ref 26), (1, .int a1)]) hG [0, 1, 2] rfl (by decide) rfl dX0_meetValues_1 ?_
  refine z_iconst (pc := 2) hG kc_0 dX0_meetValues_2 ?_
  refine z_istore_n (pc := 3) (ls' := [(3, .int (0 : Int32)), (2, .int (0 : Int32)), (0, .ref 26), (1, .int a1)]) hG [0, 1, 2, 3] rfl (by decide) rfl dX0_meetValues_3 ?_
  refine z_sub (ls' := [(0, .ref 26), (1, .int a1), (2, .int (0 : Int32)), (3, .int (0 : Int32))]) [2, 3, 1, 0] rfl ?_
  exact kwX0_meetValues_4 hG hl0 a1 hk ((0 : Int32), (0 : Int32), g) h
noncomputable def wX0_isGreatest_19 (a1 : Int64) (a3 : Int32) (g : zS) (s : Int32) : Option (Int32 ⊕ ((Int64 × Int32) ⊕ Int32)) :=
  zchk (zin a3 5) (if (g.1 4 a3.toNatClampNeg) ≤ s then (zex (zchk (zin a3 5) ((nX5_aheadOf a1 a3 (g.1 28 a3.toNatClampNeg) g).bind fun v1 => some (.inl (v1, (a3 + (-1 : Int32))))))) else (zchk (zin a3 5) (if (((g.1 28 a3.toNatClampNeg) >>> (s &&& 31)) &&& (1 : Int32)) = 0 then (zchk (zin ((a3 * (5 : Int32)) + s) 25) (if (lg_cmp ((g.2.1 30 ((a3 * (5 : Int32)) + s).toNatClampNeg) &&& a1) (0 : Int64)) = 0 then (zex (zex (some ((0 : Int32))))) else (some (.inl (s + (1 : Int32)))))) else (some (.inl (s + (1 : Int32)))))))
noncomputable def wX0_isGreatest_12 (g : zS) (s : (Int64 × Int32)) : Option ((Int64 × Int32) ⊕ Int32) :=
  if s.2 < 0 then (zex (some ((1 : Int32)))) else (wh (wX0_isGreatest_19 s.1 s.2 g) (0 : Int32))
noncomputable def nX0_isGreatest (g : zS) : Option Int32 :=
  wh (wX0_isGreatest_12 g) ((1 : Int64), ((g.1 3 0) - (1 : Int32)))
def qX0_isGreatest_12 (x : zXx) (g : zS) (o : (Int64 × Int32) ⊕ Int32) : Prop := match o with
  | .inl s => zK x 2 12 [(0, .ref 26), (1, .long s.1), (3, .int s.2)] [] zD g 0 0
  | .inr r => ztg x = (.inl (some (.int r)), zD, g)
def qX0_isGreatest_19 (x : zXx) (a1 : Int64) (a3 : Int32) (g : zS) (o : Int32 ⊕ ((Int64 × Int32) ⊕ Int32)) : Prop := match o with
  | .inl s => zK x 2 19 [(0, .ref 26), (1, .long a1), (3, .int a3), (4, .int s)] [] zD g 0 0
  | .inr r => qX0_isGreatest_12 x g r
set_option maxHeartbeats 60000 in
theorem kwX0_isGreatest_19 {x : zXx} (hG : zG x cX0_isGreatest 5 RX0 ((Option.some Jvm.ClassFile.FieldType.boolean))) (hl0 : (zl0 x).flags = flags0) (a1 : Int64) (a3 : Int32) (g : zS) {o : ((Int64 × Int32) ⊕ Int32)} (hk : qX0_isGreatest_12 x g o) : ∀ s : Int32, wh (wX0_isGreatest_19 a1 a3 g) s = some o → zK x 2 19 [(0, .ref 26), (1, .long a1), (3, .int a3), (4, .int s)] [] zD g 0 0 := by
  refine wh_ind (fun s : Int32 => zK x 2 19 [(0, .ref 26), (1, .long a1), (3, .int a3), (4, .int s)] [] zD g 0 0) (fun s o h hk2 => ?_)
  replace hk : qX0_isGreatest_19 x a1 a3 g o := by
    cases o with
    | inl s => exact hk2
    | inr r => subst hk2; exact hk
  clear hk2
  unfold wX0_isGreatest_19 at h
  refine z_iload (pc := 19) hG 3 rfl dX0_isGreatest_19 ?_
  refine z_aload_n (pc := 21) hG 0 rfl rfl dX0_isGreatest_21 ?_
  refine z_getr (pc := 22) hG zc_X0 inX0 DL_26 0 rfl (by decide) rfl w648 dX0_isGreatest_22 ?_
  refine z_getr (pc := 25) hG zc_X6 inX6 DL_3 1 rfl (by decide) rfl w541 dX0_isGreatest_25 ?_
  refine z_iload_n (pc := 28) hG 2 rfl rfl dX0_isGreatest_28 ?_
  replace h := zchk_some h
  obtain ⟨hc, h⟩ := h
  refine z_iald (pc := 29) hG DL_4 (zin_in hc) dX0_isGreatest_29 ?_
  refine z_icmp_ge (pc := 30) (tgt := 73) hG dX0_isGreatest_30 rfl (fun hc => ?_) (fun hc => ?_)
  · replace h := zif_t hc h
    replace h := zex_some h
    obtain ⟨o, h, rfl⟩ := h
    refine z_aload_n (pc := 73) hG 0 rfl rfl dX0_isGreatest_73 ?_
    refine z_getr (pc := 74) hG zc_X0 inX0 DL_26 1 rfl (by decide) rfl w649 dX0_isGreatest_74 ?_
    refine z_lload_n (pc := 77) hG 1 rfl rfl dX0_isGreatest_77 ?_
    refine z_iload_n (pc := 78) hG 2 rfl rfl dX0_isGreatest_78 ?_
    refine z_aload_n (pc := 79) hG 0 rfl rfl dX0_isGreatest_79 ?_
    refine z_getr (pc := 80) hG zc_X0 inX0 DL_26 5 rfl (by decide) rfl w653 dX0_isGreatest_80 ?_
    refine z_iload_n (pc := 83) hG 2 rfl rfl dX0_isGreatest_83 ?_
    replace h := zchk_some h
    obtain ⟨hc, h⟩ := h
    refine z_iald (pc := 84) hG DL_28 (zin_in hc) dX0_isGreatest_84 ?_
    replace h := zbind h
    obtain ⟨v1, hv1, h⟩ := h
    refine z_cvJ (pc := 85) (A' := 0) (B' := 0) hG [.long a1, .int a3, .int (g.1 28 a3.toNatClampNeg)] [] zc_X5 DL_20 (tX5_aheadOf hl0 a1 a3 (g.1 28 a3.toNatClampNeg) g hv1) zy_X5_aheadOf ⟨w159, w160⟩ w158 dX0_isGreatest_85 rfl (Nat.le_of_ble_eq_true rfl) rfl rfl rfl (Nat.le_of_ble_eq_true rfl) rfl ?_
    refine z_lstore_n (pc := 88) (ls' := [(1, .long v1), (0, .ref 26), (3, .int a3), (4, .int s)]) hG [0, 1, 2, 3] rfl (by decide) rfl dX0_isGreatest_88 ?_
    refine z_iinc (pc := 89) (ls' := [(3, .int (a3 + (-1 : Int32))), (1, .long v1), (0, .ref 26), (4, .int s)]) hG 2 rfl [0, 1, 2, 3] (ki_m1 _) (by decide) rfl dX0_isGreatest_89 ?_
    refine z_goto (pc := 92) (tgt := 12) hG dX0_isGreatest_92 rfl ?_
    obtain rfl := Option.some.inj h
    refine z_sub (ls' := [(0, .ref 26), (1, .long v1), (3, .int (a3 + (-1 : Int32)))]) [2, 1, 0] rfl ?_
    exact hk
  · replace h := zif_f hc h
    refine z_aload_n (pc := 33) hG 0 rfl rfl dX0_isGreatest_33 ?_
    refine z_getr (pc := 34) hG zc_X0 inX0 DL_26 5 rfl (by decide) rfl w653 dX0_isGreatest_34 ?_
    refine z_iload_n (pc := 37) hG 2 rfl rfl dX0_isGreatest_37 ?_
    replace h := zchk_some h
    obtain ⟨hc, h⟩ := h
    refine z_iald (pc := 38) hG DL_28 (zin_in hc) dX0_isGreatest_38 ?_
    refine z_iload (pc := 39) hG 3 rfl dX0_isGreatest_39 ?_
    refine z_ishr (pc := 41) hG dX0_isGreatest_41 ?_
    refine z_iconst (pc := 42) hG kc_1 dX0_isGreatest_42 ?_
    refine z_iand (pc := 43) hG dX0_isGreatest_43 ?_
    refine z_if_ne (pc := 44) (tgt := 67) hG dX0_isGreatest_44 rfl (fun hc => ?_) (fun hc => ?_)
    · replace h := zif_f hc h
      refine z_iinc (pc := 67) (ls' := [(4, .int (s + (1 : Int32))), (0, .ref 26), (1, .long a1), (3, .int a3)]) hG 3 rfl [0, 1, 2, 3] (ki_1 _) (by decide) rfl dX0_isGreatest_67 ?_
      refine z_goto (pc := 70) (tgt := 19) hG dX0_isGreatest_70 rfl ?_
      obtain rfl := Option.some.inj h
      refine z_sub (ls' := [(0, .ref 26), (1, .long a1), (3, .int a3), (4, .int (s + (1 : Int32)))]) [1, 2, 3, 0] rfl ?_
      exact hk
    · replace h := zif_t hc h
      refine z_aload_n (pc := 47) hG 0 rfl rfl dX0_isGreatest_47 ?_
      refine z_getr (pc := 48) hG zc_X0 inX0 DL_26 7 rfl (by decide) rfl w655 dX0_isGreatest_48 ?_
      refine z_iload_n (pc := 51) hG 2 rfl rfl dX0_isGreatest_51 ?_
      refine z_iconst (pc := 52) hG kc_5 dX0_isGreatest_52 ?_
      refine z_imul (pc := 53) hG dX0_isGreatest_53 ?_
      refine z_iload (pc := 54) hG 3 rfl dX0_isGreatest_54 ?_
      refine z_iadd (pc := 56) hG dX0_isGreatest_56 ?_
      replace h := zchk_some h
      obtain ⟨hc, h⟩ := h
      refine z_lald (pc := 57) hG DL_30 (zin_in hc) dX0_isGreatest_57 ?_
      refine z_lload_n (pc := 58) hG 1 rfl rfl dX0_isGreatest_58 ?_
      refine z_land (pc := 59) hG dX0_isGreatest_59 ?_
      refine z_lconst (pc := 60) hG kl_0 dX0_isGreatest_60 ?_
      refine z_lcmp (pc := 61) hG dX0_isGreatest_61 ?_
      refine z_if_ne (pc := 62) (tgt := 67) hG dX0_isGreatest_62 rfl (fun hc => ?_) (fun hc => ?_)
      · replace h := zif_f hc h
        refine z_iinc (pc := 67) (ls' := [(4, .int (s + (1 : Int32))), (0, .ref 26), (1, .long a1), (3, .int a3)]) hG 3 rfl [0, 1, 2, 3] (ki_1 _) (by decide) rfl dX0_isGreatest_67 ?_
        refine z_goto (pc := 70) (tgt := 19) hG dX0_isGreatest_70 rfl ?_
        obtain rfl := Option.some.inj h
        refine z_sub (ls' := [(0, .ref 26), (1, .long a1), (3, .int a3), (4, .int (s + (1 : Int32)))]) [1, 2, 3, 0] rfl ?_
        exact hk
      · replace h := zif_t hc h
        replace h := zex_some h
        obtain ⟨o, h, rfl⟩ := h
        replace h := zex_some h
        obtain ⟨o, h, rfl⟩ := h
        refine z_iconst (pc := 65) hG kc_0 dX0_isGreatest_65 ?_
        obtain rfl := Option.some.inj h
        exact z_iret (pc := 66) hG rfl rfl hk dX0_isGreatest_66
set_option maxHeartbeats 60000 in
theorem kwX0_isGreatest_12 {x : zXx} (hG : zG x cX0_isGreatest 5 RX0 ((Option.some Jvm.ClassFile.FieldType.boolean))) (hl0 : (zl0 x).flags = flags0) (g : zS) {o : Int32} (hk : ztg x = (.inl (some (.int o)), zD, g)) : ∀ s : (Int64 × Int32), wh (wX0_isGreatest_12 g) s = some o → zK x 2 12 [(0, .ref 26), (1, .long s.1), (3, .int s.2)] [] zD g 0 0 := by
  refine wh_ind (fun s : (Int64 × Int32) => zK x 2 12 [(0, .ref 26), (1, .long s.1), (3, .int s.2)] [] zD g 0 0) (fun s o h hk2 => ?_)
  replace hk : qX0_isGreatest_12 x g o := by
    cases o with
    | inl s => exact hk2
    | inr r => subst hk2; exact hk
  clear hk2
  unfold wX0_isGreatest_12 at h
  refine z_iload_n (pc := 12) hG 2 rfl rfl dX0_isGreatest_12 ?_
  refine z_if_lt (pc := 13) (tgt := 95) hG dX0_isGreatest_13 rfl (fun hc => ?_) (fun hc => ?_)
  · replace h := zif_t hc h
    replace h := zex_some h
    obtain ⟨o, h, rfl⟩ := h
    refine z_iconst (pc := 95) hG kc_1 dX0_isGreatest_95 ?_
    obtain rfl := Option.some.inj h
    exact z_iret (pc := 96) hG rfl rfl hk dX0_isGreatest_96
  · replace h := zif_f hc h
    refine z_iconst (pc := 16) hG kc_0 dX0_isGreatest_16 ?_
    refine z_istore (pc := 17) (ls' := [(4, .int (0 : Int32)), (0, .ref 26), (1, .long s.1), (3, .int s.2)]) hG [0, 1, 2, 3] (by decide) rfl dX0_isGreatest_17 ?_
    refine z_sub (ls' := [(0, .ref 26), (1, .long s.1), (3, .int s.2), (4, .int (0 : Int32))]) [1, 2, 3, 0] rfl ?_
    exact kwX0_isGreatest_19 hG hl0 s.1 s.2 g hk (0 : Int32) h
set_option maxHeartbeats 60000 in
theorem tX0_isGreatest {l : Launch} (hl0 : l.flags = flags0) (g : zS) {r : Int32} (h : nX0_isGreatest g = some r) : zC l yX0_isGreatest cX0_isGreatest 5 ((Option.some Jvm.ClassFile.FieldType.boolean)) 2 0 0 [.ref 26] zD g (.inl (some (.int r)), zD, g) := by
  refine zC_of hl0 rfl (Nat.le_of_ble_eq_true rfl) (fun x hG hxl hk _ => ?_)
  subst hxl
  show zK x 2 0 [(0, .ref 26)] [] zD g 0 0
  unfold nX0_isGreatest at h
  refine z_lconst (pc := 0) hG kl_1 dX0_isGreatest_0 ?_
  refine z_lstore_n (pc := 1) (ls' := [(1, .long (1 : Int64)), (0, .ref 26)]) hG [0, 1] rfl (by decide) rfl dX0_isGreatest_1 ?_
  refine z_aload_n (pc := 2) hG 1 rfl rfl dX0_isGreatest_2 ?_
  refine z_getr (pc := 3) hG zc_X0 inX0 DL_26 0 rfl (by decide) rfl w648 dX0_isGreatest_3 ?_
  refine z_geti (pc := 6) hG zc_X6 inX6 DL_3 0 rfl (by decide) rfl w536 dX0_isGreatest_6 ?_
  refine z_iconst (pc := 9) hG kc_1 dX0_isGreatest_9 ?_
  refine z_isub (pc := 10) hG dX0_isGreatest_10 ?_
  refine z_istore_n (pc := 11) (ls' := [(3, .int ((g.1 3 0) - (1 : Int32))), (1, .long (1 : Int64)), (0, .ref 26)]) hG [0, 1, 2] rfl (by decide) rfl dX0_isGreatest_11 ?_
  refine z_sub (ls' := [(0, .ref 26), (1, .long (1 : Int64)), (3, .int ((g.1 3 0) - (1 : Int32)))]) [2, 1, 0] rfl ?_
  exact kwX0_isGreatest_12 hG hl0 g hk ((1 : Int64), ((g.1 3 0) - (1 : Int32))) h
noncomputable def wX0_joined_5 (a1 : Int32) (a2 : Int32) (g : zS) (s : (Int64 × Int32)) : Option ((Int64 × Int32) ⊕ Int64) :=
  zchk (zin a1 5) (if (g.1 4 a1.toNatClampNeg) ≤ s.2 then (zex (some (s.1))) else (if ((a2 >>> (s.2 &&& 31)) &&& (1 : Int32)) = 0 then (some (.inl (s.1, (s.2 + (1 : Int32))))) else (zchk (zin ((a1 * (5 : Int32)) + s.2) 25) (some (.inl ((s.1 ||| (g.2.1 30 ((a1 * (5 : Int32)) + s.2).toNatClampNeg)), (s.2 + (1 : Int32))))))))
noncomputable def nX0_joined (a1 : Int32) (a2 : Int32) (g : zS) : Option Int64 :=
  wh (wX0_joined_5 a1 a2 g) ((0 : Int64), (0 : Int32))
def qX0_joined_5 (x : zXx) (a1 : Int32) (a2 : Int32) (g : zS) (o : (Int64 × Int32) ⊕ Int64) : Prop := match o with
  | .inl s => zK x 0 5 [(0, .ref 26), (1, .int a1), (2, .int a2), (3, .long s.1), (5, .int s.2)] [] zD g 0 0
  | .inr r => ztg x = (.inl (some (.long r)), zD, g)
set_option maxHeartbeats 60000 in
theorem kwX0_joined_5 {x : zXx} (hG : zG x cX0_joined 6 RX0 ((Option.some Jvm.ClassFile.FieldType.long))) (hl0 : (zl0 x).flags = flags0) (a1 : Int32) (a2 : Int32) (g : zS) {o : Int64} (hk : ztg x = (.inl (some (.long o)), zD, g)) : ∀ s : (Int64 × Int32), wh (wX0_joined_5 a1 a2 g) s = some o → zK x 0 5 [(0, .ref 26), (1, .int a1), (2, .int a2), (3, .long s.1), (5, .int s.2)] [] zD g 0 0 := by
  refine wh_ind (fun s : (Int64 × Int32) => zK x 0 5 [(0, .ref 26), (1, .int a1), (2, .int a2), (3, .long s.1), (5, .int s.2)] [] zD g 0 0) (fun s o h hk2 => ?_)
  replace hk : qX0_joined_5 x a1 a2 g o := by
    cases o with
    | inl s => exact hk2
    | inr r => subst hk2; exact hk
  clear hk2
  unfold wX0_joined_5 at h
  refine z_iload (pc := 5) hG 4 rfl dX0_joined_5 ?_
  refine z_aload_n (pc := 7) hG 0 rfl rfl dX0_joined_7 ?_
  refine z_getr (pc := 8) hG zc_X0 inX0 DL_26 0 rfl (by decide) rfl w648 dX0_joined_8 ?_
  refine z_getr (pc := 11) hG zc_X6 inX6 DL_3 1 rfl (by decide) rfl w541 dX0_joined_11 ?_
  refine z_iload_n (pc := 14) hG 1 rfl rfl dX0_joined_14 ?_
  replace h := zchk_some h
  obtain ⟨hc, h⟩ := h
  refine z_iald (pc := 15) hG DL_4 (zin_in hc) dX0_joined_15 ?_
  refine z_icmp_ge (pc := 16) (tgt := 48) hG dX0_joined_16 rfl (fun hc => ?_) (fun hc => ?_)
  · replace h := zif_t hc h
    replace h := zex_some h
    obtain ⟨o, h, rfl⟩ := h
    refine z_lload_n (pc := 48) hG 3 rfl rfl dX0_joined_48 ?_
    obtain rfl := Option.some.inj h
    exact z_lret (pc := 49) hG rfl hk dX0_joined_49
  · replace h := zif_f hc h
    refine z_iload_n (pc := 19) hG 2 rfl rfl dX0_joined_19 ?_
    refine z_iload (pc := 20) hG 4 rfl dX0_joined_20 ?_
    refine z_ishr (pc := 22) hG dX0_joined_22 ?_
    refine z_iconst (pc := 23) hG kc_1 dX0_joined_23 ?_
    refine z_iand (pc := 24) hG dX0_joined_24 ?_
    refine z_if_eq (pc := 25) (tgt := 42) hG dX0_joined_25 rfl (fun hc => ?_) (fun hc => ?_)
    · replace h := zif_t hc h
      refine z_iinc (pc := 42) (ls' := [(5, .int (s.2 + (1 : Int32))), (0, .ref 26), (1, .int a1), (2, .int a2), (3, .long s.1)]) hG 4 rfl [0, 1, 2, 3, 4] (ki_1 _) (by decide) rfl dX0_joined_42 ?_
      refine z_goto (pc := 45) (tgt := 5) hG dX0_joined_45 rfl ?_
      obtain rfl := Option.some.inj h
      refine z_sub (ls' := [(0, .ref 26), (1, .int a1), (2, .int a2), (3, .long s.1), (5, .int (s.2 + (1 : Int32)))]) [1, 2, 3, 4, 0] rfl ?_
      exact hk
    · replace h := zif_f hc h
      refine z_lload_n (pc := 28) hG 3 rfl rfl dX0_joined_28 ?_
      refine z_aload_n (pc := 29) hG 0 rfl rfl dX0_joined_29 ?_
      refine z_getr (pc := 30) hG zc_X0 inX0 DL_26 7 rfl (by decide) rfl w655 dX0_joined_30 ?_
      refine z_iload_n (pc := 33) hG 1 rfl rfl dX0_joined_33 ?_
      refine z_iconst (pc := 34) hG kc_5 dX0_joined_34 ?_
      refine z_imul (pc := 35) hG dX0_joined_35 ?_
      refine z_iload (pc := 36) hG 4 rfl dX0_joined_36 ?_
      refine z_iadd (pc := 38) hG dX0_joined_38 ?_
      replace h := zchk_some h
      obtain ⟨hc, h⟩ := h
      refine z_lald (pc := 39) hG DL_30 (zin_in hc) dX0_joined_39 ?_
      refine z_lor (pc := 40) hG dX0_joined_40 ?_
      refine z_lstore_n (pc := 41) (ls' := [(3, .long (s.1 ||| (g.2.1 30 ((a1 * (5 : Int32)) + s.2).toNatClampNeg))), (0, .ref 26), (1, .int a1), (2, .int a2), (5, .int s.2)]) hG [0, 1, 2, 3, 4] rfl (by decide) rfl dX0_joined_41 ?_
      refine z_iinc (pc := 42) (ls' := [(5, .int (s.2 + (1 : Int32))), (3, .long (s.1 ||| (g.2.1 30 ((a1 * (5 : Int32)) + s.2).toNatClampNeg))), (0, .ref 26), (1, .int a1), (2, .int a2)]) hG 4 rfl [0, 1, 2, 3, 4] (ki_1 _) (by decide) rfl dX0_joined_42 ?_
      refine z_goto (pc := 45) (tgt := 5) hG dX0_joined_45 rfl ?_
      obtain rfl := Option.some.inj h
      refine z_sub (ls' := [(0, .ref 26), (1, .int a1), (2, .int a2), (3, .long (s.1 ||| (g.2.1 30 ((a1 * (5 : Int32)) + s.2).toNatClampNeg))), (5, .int (s.2 + (1 : Int32)))]) [2, 3, 4, 1, 0] rfl ?_
      exact hk
set_option maxHeartbeats 60000 in
theorem tX0_joined {l : Launch} (hl0 : l.flags = flags0) (a1 : Int32) (a2 : Int32) (g : zS) {r : Int64} (h : nX0_joined a1 a2 g = some r) : zC l yX0_joined cX0_joined 6 ((Option.some Jvm.ClassFile.FieldType.long)) 0 0 0 [.ref 26, .int a1, .int a2] zD g (.inl (some (.long r)), zD, g) := by
  refine zC_of hl0 rfl (Nat.le_of_ble_eq_true rfl) (fun x hG hxl hk _ => ?_)
  subst hxl
  show zK x 0 0 [(0, .ref 26), (1, .int a1), (2, .int a2)] [] zD g 0 0
  unfold nX0_joined at h
  refine z_lconst (pc := 0) hG kl_0 dX0_joined_0 ?_
  refine z_lstore_n (pc := 1) (ls' := [(3, .long (0 : Int64)), (0, .ref 26), (1, .int a1), (2, .int a2)]) hG [0, 1, 2, 3] rfl (by decide) rfl dX0_joined_1 ?_
  refine z_iconst (pc := 2) hG kc_0 dX0_joined_2 ?_
  refine z_istore (pc := 3) (ls' := [(5, .int (0 : Int32)), (3, .long (0 : Int64)), (0, .ref 26), (1, .int a1), (2, .int a2)]) hG [0, 1, 2, 3, 4] (by decide) rfl dX0_joined_3 ?_
  refine z_sub (ls' := [(0, .ref 26), (1, .int a1), (2, .int a2), (3, .long (0 : Int64)), (5, .int (0 : Int32))]) [2, 3, 4, 1, 0] rfl ?_
  exact kwX0_joined_5 hG hl0 a1 a2 g hk ((0 : Int64), (0 : Int32)) h
noncomputable def wX0_isClosed_10 (a1 : Int32) (a2 : Int32) (a3 : Int64) (g : zS) (s : Int32) : Option (Int32 ⊕ Int32) :=
  zchk (zin a1 5) (if (g.1 4 a1.toNatClampNeg) ≤ s then (zex (some ((1 : Int32)))) else (if ((a2 >>> (s &&& 31)) &&& (1 : Int32)) = 0 then (zchk (zin ((a1 * (5 : Int32)) + s) 25) (if (lg_cmp ((g.2.1 30 ((a1 * (5 : Int32)) + s).toNatClampNeg) &&& (a3 ^^^ (-1 : Int64))) (0 : Int64)) = 0 then (zex (some ((0 : Int32)))) else (some (.inl (s + (1 : Int32)))))) else (some (.inl (s + (1 : Int32))))))
noncomputable def nX0_isClosed (a1 : Int32) (a2 : Int32) (g : zS) : Option Int32 :=
  (nX0_joined a1 a2 g).bind fun v1 => wh (wX0_isClosed_10 a1 a2 v1 g) (0 : Int32)
def qX0_isClosed_10 (x : zXx) (a1 : Int32) (a2 : Int32) (a3 : Int64) (g : zS) (o : Int32 ⊕ Int32) : Prop := match o with
  | .inl s => zK x 1 10 [(0, .ref 26), (1, .int a1), (2, .int a2), (3, .long a3), (5, .int s)] [] zD g 0 0
  | .inr r => ztg x = (.inl (some (.int r)), zD, g)
set_option maxHeartbeats 60000 in
theorem kwX0_isClosed_10 {x : zXx} (hG : zG x cX0_isClosed 6 RX0 ((Option.some Jvm.ClassFile.FieldType.boolean))) (hl0 : (zl0 x).flags = flags0) (a1 : Int32) (a2 : Int32) (a3 : Int64) (g : zS) {o : Int32} (hk : ztg x = (.inl (some (.int o)), zD, g)) : ∀ s : Int32, wh (wX0_isClosed_10 a1 a2 a3 g) s = some o → zK x 1 10 [(0, .ref 26), (1, .int a1), (2, .int a2), (3, .long a3), (5, .int s)] [] zD g 0 0 := by
  refine wh_ind (fun s : Int32 => zK x 1 10 [(0, .ref 26), (1, .int a1), (2, .int a2), (3, .long a3), (5, .int s)] [] zD g 0 0) (fun s o h hk2 => ?_)
  replace hk : qX0_isClosed_10 x a1 a2 a3 g o := by
    cases o with
    | inl s => exact hk2
    | inr r => subst hk2; exact hk
  clear hk2
  unfold wX0_isClosed_10 at h
  refine z_iload (pc := 10) hG 4 rfl dX0_isClosed_10 ?_
  refine z_aload_n (pc := 12) hG 0 rfl rfl dX0_isClosed_12 ?_
  refine z_getr (pc := 13) hG zc_X0 inX0 DL_26 0 rfl (by decide) rfl w648 dX0_isClosed_13 ?_
  refine z_getr (pc := 16) hG zc_X6 inX6 DL_3 1 rfl (by decide) rfl w541 dX0_isClosed_16 ?_
  refine z_iload_n (pc := 19) hG 1 rfl rfl dX0_isClosed_19 ?_
  replace h := zchk_some h
  obtain ⟨hc, h⟩ := h
  refine z_iald (pc := 20) hG DL_4 (zin_in hc) dX0_isClosed_20 ?_
  refine z_icmp_ge (pc := 21) (tgt := 63) hG dX0_isClosed_21 rfl (fun hc => ?_) (fun hc => ?_)
  · replace h := zif_t hc h
    replace h := zex_some h
    obtain ⟨o, h, rfl⟩ := h
    refine z_iconst (pc := 63) hG kc_1 dX0_isClosed_63 ?_
    obtain rfl := Option.some.inj h
    exact z_iret (pc := 64) hG rfl rfl hk dX0_isClosed_64
  · replace h := zif_f hc h
    refine z_iload_n (pc := 24) hG 2 rfl rfl dX0_isClosed_24 ?_
    refine z_iload (pc := 25) hG 4 rfl dX0_isClosed_25 ?_
    refine z_ishr (pc := 27) hG dX0_isClosed_27 ?_
    refine z_iconst (pc := 28) hG kc_1 dX0_isClosed_28 ?_
    refine z_iand (pc := 29) hG dX0_isClosed_29 ?_
    refine z_if_ne (pc := 30) (tgt := 57) hG dX0_isClosed_30 rfl (fun hc => ?_) (fun hc => ?_)
    · replace h := zif_f hc h
      refine z_iinc (pc := 57) (ls' := [(5, .int (s + (1 : Int32))), (0, .ref 26), (1, .int a1), (2, .int a2), (3, .long a3)]) hG 4 rfl [0, 1, 2, 3, 4] (ki_1 _) (by decide) rfl dX0_isClosed_57 ?_
      refine z_goto (pc := 60) (tgt := 10) hG dX0_isClosed_60 rfl ?_
      obtain rfl := Option.some.inj h
      refine z_sub (ls' := [(0, .ref 26), (1, .int a1), (2, .int a2), (3, .long a3), (5, .int (s + (1 : Int32)))]) [1, 2, 3, 4, 0] rfl ?_
      exact hk
    · replace h := zif_t hc h
      refine z_aload_n (pc := 33) hG 0 rfl rfl dX0_isClosed_33 ?_
      refine z_getr (pc := 34) hG zc_X0 inX0 DL_26 7 rfl (by decide) rfl w655 dX0_isClosed_34 ?_
      refine z_iload_n (pc := 37) hG 1 rfl rfl dX0_isClosed_37 ?_
      refine z_iconst (pc := 38) hG kc_5 dX0_isClosed_38 ?_
      refine z_imul (pc := 39) hG dX0_isClosed_39 ?_
      refine z_iload (pc := 40) hG 4 rfl dX0_isClosed_40 ?_
      refine z_iadd (pc := 42) hG dX0_isClosed_42 ?_
      replace h := zchk_some h
      obtain ⟨hc, h⟩ := h
      refine z_lald (pc := 43) hG DL_30 (zin_in hc) dX0_isClosed_43 ?_
      refine z_lload_n (pc := 44) hG 3 rfl rfl dX0_isClosed_44 ?_
      refine z_ldc2 (pc := 45) hG w153 dX0_isClosed_45 ?_
      refine z_lxor (pc := 48) hG dX0_isClosed_48 ?_
      refine z_land (pc := 49) hG dX0_isClosed_49 ?_
      refine z_lconst (pc := 50) hG kl_0 dX0_isClosed_50 ?_
      refine z_lcmp (pc := 51) hG dX0_isClosed_51 ?_
      refine z_if_ne (pc := 52) (tgt := 57) hG dX0_isClosed_52 rfl (fun hc => ?_) (fun hc => ?_)
      · replace h := zif_f hc h
        refine z_iinc (pc := 57) (ls' := [(5, .int (s + (1 : Int32))), (0, .ref 26), (1, .int a1), (2, .int a2), (3, .long a3)]) hG 4 rfl [0, 1, 2, 3, 4] (ki_1 _) (by decide) rfl dX0_isClosed_57 ?_
        refine z_goto (pc := 60) (tgt := 10) hG dX0_isClosed_60 rfl ?_
        obtain rfl := Option.some.inj h
        refine z_sub (ls' := [(0, .ref 26), (1, .int a1), (2, .int a2), (3, .long a3), (5, .int (s + (1 : Int32)))]) [1, 2, 3, 4, 0] rfl ?_
        exact hk
      · replace h := zif_t hc h
        replace h := zex_some h
        obtain ⟨o, h, rfl⟩ := h
        refine z_iconst (pc := 55) hG kc_0 dX0_isClosed_55 ?_
        obtain rfl := Option.some.inj h
        exact z_iret (pc := 56) hG rfl rfl hk dX0_isClosed_56
set_option maxHeartbeats 60000 in
theorem tX0_isClosed {l : Launch} (hl0 : l.flags = flags0) (a1 : Int32) (a2 : Int32) (g : zS) {r : Int32} (h : nX0_isClosed a1 a2 g = some r) : zC l yX0_isClosed cX0_isClosed 6 ((Option.some Jvm.ClassFile.FieldType.boolean)) 1 0 0 [.ref 26, .int a1, .int a2] zD g (.inl (some (.int r)), zD, g) := by
  refine zC_of hl0 rfl (Nat.le_of_ble_eq_true rfl) (fun x hG hxl hk _ => ?_)
  subst hxl
  show zK x 1 0 [(0, .ref 26), (1, .int a1), (2, .int a2)] [] zD g 0 0
  unfold nX0_isClosed at h
  refine z_aload_n (pc := 0) hG 0 rfl rfl dX0_isClosed_0 ?_
  refine z_iload_n (pc := 1) hG 1 rfl rfl dX0_isClosed_1 ?_
  refine z_iload_n (pc := 2) hG 2 rfl rfl dX0_isClosed_2 ?_
  replace h := zbind h
  obtain ⟨v1, hv1, h⟩ := h
  refine z_cvJ (pc := 3) (A' := 0) (B' := 0) hG [.int a1, .int a2] [] zc_X0 DL_26 (tX0_joined hl0 a1 a2 g hv1) zy_X0_joined ⟨w197, wp9⟩ w195 dX0_isClosed_3 rfl (Nat.le_of_ble_eq_true rfl) rfl rfl rfl (Nat.le_of_ble_eq_true rfl) rfl ?_
  refine z_lstore_n (pc := 6) (ls' := [(3, .long v1), (0, .ref 26), (1, .int a1), (2, .int a2)]) hG [0, 1, 2, 3] rfl (by decide) rfl dX0_isClosed_6 ?_
  refine z_iconst (pc := 7) hG kc_0 dX0_isClosed_7 ?_
  refine z_istore (pc := 8) (ls' := [(5, .int (0 : Int32)), (3, .long v1), (0, .ref 26), (1, .int a1), (2, .int a2)]) hG [0, 1, 2, 3, 4] (by decide) rfl dX0_isClosed_8 ?_
  refine z_sub (ls' := [(0, .ref 26), (1, .int a1), (2, .int a2), (3, .long v1), (5, .int (0 : Int32))]) [2, 3, 4, 1, 0] rfl ?_
  exact kwX0_isClosed_10 hG hl0 a1 a2 v1 g hk (0 : Int32) h
noncomputable def nX0_setOf (a1 : Int32) (a2 : Int32) (g : zS) : Option Int32 :=
  zchk (zin a1 g.2.2.2) (some ((((g.1 27 a1.toNatClampNeg) >>> (((5 : Int32) * a2) &&& 31)) &&& (31 : Int32))))
set_option maxHeartbeats 60000 in
theorem tX0_setOf {l : Launch} (hl0 : l.flags = flags0) (a1 : Int32) (a2 : Int32) (g : zS) {r : Int32} (h : nX0_setOf a1 a2 g = some r) : zC l yX0_setOf cX0_setOf 3 ((Option.some Jvm.ClassFile.FieldType.int)) 0 0 0 [.ref 26, .int a1, .int a2] zD g (.inl (some (.int r)), zD, g) := by
  refine zC_of hl0 rfl (Nat.le_of_ble_eq_true rfl) (fun x hG hxl hk _ => ?_)
  subst hxl
  show zK x 0 0 [(0, .ref 26), (1, .int a1), (2, .int a2)] [] zD g 0 0
  unfold nX0_setOf at h
  refine z_aload_n (pc := 0) hG 0 rfl rfl dX0_setOf_0 ?_
  refine z_getr (pc := 1) hG zc_X0 inX0 DL_26 2 rfl (by decide) rfl w650 dX0_setOf_1 ?_
  refine z_iload_n (pc := 4) hG 1 rfl rfl dX0_setOf_4 ?_
  replace h := zchk_some h
  obtain ⟨hc, h⟩ := h
  refine z_fald (pc := 5) hG DL_27 (zin_in hc) dX0_setOf_5 ?_
  refine z_iconst (pc := 6) hG kc_5 dX0_setOf_6 ?_
  refine z_iload_n (pc := 7) hG 2 rfl rfl dX0_setOf_7 ?_
  refine z_imul (pc := 8) hG dX0_setOf_8 ?_
  refine z_ishr (pc := 9) hG dX0_setOf_9 ?_
  refine z_bipush (pc := 10) hG kb_31 dX0_setOf_10 ?_
  refine z_iand (pc := 12) hG dX0_setOf_12 ?_
  obtain rfl := Option.some.inj h
  exact z_iret (pc := 13) hG rfl rfl hk dX0_setOf_13
noncomputable def wX0_entering_4 (a1 : Int32) (g : zS) (s : (Int32 × Int32)) : Option ((Int32 × Int32) ⊕ Int32) :=
  if (g.1 3 0) ≤ s.2 then (zex (some (s.1))) else ((nX0_setOf a1 s.2 g).bind fun v1 => (nX6_allValues s.2 g).bind fun v2 => if v1 = v2 then (some (.inl (s.1, (s.2 + (1 : Int32))))) else (some (.inl ((s.1 ||| ((1 : Int32) <<< (s.2 &&& 31))), (s.2 + (1 : Int32))))))
noncomputable def nX0_entering (a1 : Int32) (g : zS) : Option Int32 :=
  wh (wX0_entering_4 a1 g) ((0 : Int32), (0 : Int32))
def qX0_entering_4 (x : zXx) (a1 : Int32) (g : zS) (o : (Int32 × Int32) ⊕ Int32) : Prop := match o with
  | .inl s => zK x 1 4 [(0, .ref 26), (1, .int a1), (2, .int s.1), (3, .int s.2)] [] zD g 0 0
  | .inr r => ztg x = (.inl (some (.int r)), zD, g)
set_option maxHeartbeats 60000 in
theorem kwX0_entering_4 {x : zXx} (hG : zG x cX0_entering 4 RX0 ((Option.some Jvm.ClassFile.FieldType.int))) (hl0 : (zl0 x).flags = flags0) (a1 : Int32) (g : zS) {o : Int32} (hk : ztg x = (.inl (some (.int o)), zD, g)) : ∀ s : (Int32 × Int32), wh (wX0_entering_4 a1 g) s = some o → zK x 1 4 [(0, .ref 26), (1, .int a1), (2, .int s.1), (3, .int s.2)] [] zD g 0 0 := by
  refine wh_ind (fun s : (Int32 × Int32) => zK x 1 4 [(0, .ref 26), (1, .int a1), (2, .int s.1), (3, .int s.2)] [] zD g 0 0) (fun s o h hk2 => ?_)
  replace hk : qX0_entering_4 x a1 g o := by
    cases o with
    | inl s => exact hk2
    | inr r => subst hk2; exact hk
  clear hk2
  unfold wX0_entering_4 at h
  refine z_iload_n (pc := 4) hG 3 rfl rfl dX0_entering_4 ?_
  refine z_aload_n (pc := 5) hG 0 rfl rfl dX0_entering_5 ?_
  refine z_getr (pc := 6) hG zc_X0 inX0 DL_26 0 rfl (by decide) rfl w648 dX0_entering_6 ?_
  refine z_geti (pc := 9) hG zc_X6 inX6 DL_3 0 rfl (by decide) rfl w536 dX0_entering_9 ?_
  refine z_icmp_ge (pc := 12) (tgt := 44) hG dX0_entering_12 rfl (fun hc => ?_) (fun hc => ?_)
  · replace h := zif_t hc h
    replace h := zex_some h
    obtain ⟨o, h, rfl⟩ := h
    refine z_iload_n (pc := 44) hG 2 rfl rfl dX0_entering_44 ?_
    obtain rfl := Option.some.inj h
    exact z_iret (pc := 45) hG rfl rfl hk dX0_entering_45
  · replace h := zif_f hc h
    refine z_aload_n (pc := 15) hG 0 rfl rfl dX0_entering_15 ?_
    refine z_iload_n (pc := 16) hG 1 rfl rfl dX0_entering_16 ?_
    refine z_iload_n (pc := 17) hG 3 rfl rfl dX0_entering_17 ?_
    replace h := zbind h
    obtain ⟨v1, hv1, h⟩ := h
    refine z_cvI (pc := 18) (A' := 0) (B' := 0) hG [.int a1, .int s.2] [] zc_X0 DL_26 (tX0_setOf hl0 a1 s.2 g hv1) zy_X0_setOf ⟨w204, w205⟩ w203 dX0_entering_18 rfl (Nat.le_of_ble_eq_true rfl) rfl rfl rfl (Nat.le_of_ble_eq_true rfl) rfl ?_
    refine z_aload_n (pc := 21) hG 0 rfl rfl dX0_entering_21 ?_
    refine z_getr (pc := 22) hG zc_X0 inX0 DL_26 0 rfl (by decide) rfl w648 dX0_entering_22 ?_
    refine z_iload_n (pc := 25) hG 3 rfl rfl dX0_entering_25 ?_
    replace h := zbind h
    obtain ⟨v2, hv2, h⟩ := h
    refine z_cvI (pc := 26) (A' := 0) (B' := 0) hG [.int s.2] [.int v1] zc_X6 DL_3 (tX6_allValues hl0 s.2 g hv2) zy_X6_allValues ⟨w208, w209⟩ w207 dX0_entering_26 rfl (Nat.le_of_ble_eq_true rfl) rfl rfl rfl (Nat.le_of_ble_eq_true rfl) rfl ?_
    refine z_icmp_eq (pc := 29) (tgt := 38) hG dX0_entering_29 rfl (fun hc => ?_) (fun hc => ?_)
    · replace h := zif_t hc h
      refine z_iinc (pc := 38) (ls' := [(3, .int (s.2 + (1 : Int32))), (0, .ref 26), (1, .int a1), (2, .int s.1)]) hG 3 rfl [0, 1, 2, 3] (ki_1 _) (by decide) rfl dX0_entering_38 ?_
      refine z_goto (pc := 41) (tgt := 4) hG dX0_entering_41 rfl ?_
      obtain rfl := Option.some.inj h
      refine z_sub (ls' := [(0, .ref 26), (1, .int a1), (2, .int s.1), (3, .int (s.2 + (1 : Int32)))]) [1, 2, 3, 0] rfl ?_
      exact hk
    · replace h := zif_f hc h
      refine z_iload_n (pc := 32) hG 2 rfl rfl dX0_entering_32 ?_
      refine z_iconst (pc := 33) hG kc_1 dX0_entering_33 ?_
      refine z_iload_n (pc := 34) hG 3 rfl rfl dX0_entering_34 ?_
      refine z_ishl (pc := 35) hG dX0_entering_35 ?_
      refine z_ior (pc := 36) hG dX0_entering_36 ?_
      refine z_istore_n (pc := 37) (ls' := [(2, .int (s.1 ||| ((1 : Int32) <<< (s.2 &&& 31)))), (0, .ref 26), (1, .int a1), (3, .int s.2)]) hG [0, 1, 2, 3] rfl (by decide) rfl dX0_entering_37 ?_
      refine z_iinc (pc := 38) (ls' := [(3, .int (s.2 + (1 : Int32))), (2, .int (s.1 ||| ((1 : Int32) <<< (s.2 &&& 31)))), (0, .ref 26), (1, .int a1)]) hG 3 rfl [0, 1, 2, 3] (ki_1 _) (by decide) rfl dX0_entering_38 ?_
      refine z_goto (pc := 41) (tgt := 4) hG dX0_entering_41 rfl ?_
      obtain rfl := Option.some.inj h
      refine z_sub (ls' := [(0, .ref 26), (1, .int a1), (2, .int (s.1 ||| ((1 : Int32) <<< (s.2 &&& 31)))), (3, .int (s.2 + (1 : Int32)))]) [2, 3, 1, 0] rfl ?_
      exact hk
set_option maxHeartbeats 60000 in
theorem tX0_entering {l : Launch} (hl0 : l.flags = flags0) (a1 : Int32) (g : zS) {r : Int32} (h : nX0_entering a1 g = some r) : zC l yX0_entering cX0_entering 4 ((Option.some Jvm.ClassFile.FieldType.int)) 1 0 0 [.ref 26, .int a1] zD g (.inl (some (.int r)), zD, g) := by
  refine zC_of hl0 rfl (Nat.le_of_ble_eq_true rfl) (fun x hG hxl hk _ => ?_)
  subst hxl
  show zK x 1 0 [(0, .ref 26), (1, .int a1)] [] zD g 0 0
  unfold nX0_entering at h
  refine z_iconst (pc := 0) hG kc_0 dX0_entering_0 ?_
  refine z_istore_n (pc := 1) (ls' := [(2, .int (0 : Int32)), (0, .ref 26), (1, .int a1)]) hG [0, 1, 2] rfl (by decide) rfl dX0_entering_1 ?_
  refine z_iconst (pc := 2) hG kc_0 dX0_entering_2 ?_
  refine z_istore_n (pc := 3) (ls' := [(3, .int (0 : Int32)), (2, .int (0 : Int32)), (0, .ref 26), (1, .int a1)]) hG [0, 1, 2, 3] rfl (by decide) rfl dX0_entering_3 ?_
  refine z_sub (ls' := [(0, .ref 26), (1, .int a1), (2, .int (0 : Int32)), (3, .int (0 : Int32))]) [2, 3, 1, 0] rfl ?_
  exact kwX0_entering_4 hG hl0 a1 g hk ((0 : Int32), (0 : Int32)) h
noncomputable def wX1_ofDigits_9  (s : (Int32 × Int32 × Int32)) : Option ((Int32 × Int32 × Int32) ⊕ Int32) :=
  if s.2.2 < 0 then (zex (if s.1 = 0 then (some (s.2.1)) else (some ((-1 : Int32))))) else (if (s.1 - s.1 / (10 : Int32) * (10 : Int32)) < 0 then (zex (some ((-1 : Int32)))) else (if (s.1 - s.1 / (10 : Int32) * (10 : Int32)) < (5 : Int32) then ((nX1_withAnswer s.2.1 s.2.2 (s.1 - s.1 / (10 : Int32) * (10 : Int32))).bind fun v1 => some (.inl ((s.1 / (10 : Int32)), v1, (s.2.2 + (-1 : Int32))))) else (zex (some ((-1 : Int32))))))
noncomputable def nX1_ofDigits (a0 : Int32) (a1 : Int32) : Option Int32 :=
  wh (wX1_ofDigits_9 ) (a0, (0 : Int32), (a1 - (1 : Int32)))
def qX1_ofDigits_9 (x : zXx) (g : zS) (o : (Int32 × Int32 × Int32) ⊕ Int32) : Prop := match o with
  | .inl s => zK x 1 9 [(2, .int s.1), (3, .int s.2.1), (4, .int s.2.2)] [] zD g 0 0
  | .inr r => ztg x = (.inl (some (.int r)), zD, g)
set_option maxHeartbeats 60000 in
theorem kwX1_ofDigits_9 {x : zXx} (hG : zG x cX1_ofDigits 6 RX1 ((Option.some Jvm.ClassFile.FieldType.int))) (hl0 : (zl0 x).flags = flags0) (g : zS) {o : Int32} (hk : ztg x = (.inl (some (.int o)), zD, g)) : ∀ s : (Int32 × Int32 × Int32), wh (wX1_ofDigits_9 ) s = some o → zK x 1 9 [(2, .int s.1), (3, .int s.2.1), (4, .int s.2.2)] [] zD g 0 0 := by
  refine wh_ind (fun s : (Int32 × Int32 × Int32) => zK x 1 9 [(2, .int s.1), (3, .int s.2.1), (4, .int s.2.2)] [] zD g 0 0) (fun s o h hk2 => ?_)
  replace hk : qX1_ofDigits_9 x g o := by
    cases o with
    | inl s => exact hk2
    | inr r => subst hk2; exact hk
  clear hk2
  unfold wX1_ofDigits_9 at h
  refine z_iload (pc := 9) hG 2 rfl dX1_ofDigits_9 ?_
  refine z_if_lt (pc := 11) (tgt := 53) hG dX1_ofDigits_11 rfl (fun hc => ?_) (fun hc => ?_)
  · replace h := zif_t hc h
    replace h := zex_some h
    obtain ⟨o, h, rfl⟩ := h
    refine z_iload_n (pc := 53) hG 0 rfl rfl dX1_ofDigits_53 ?_
    refine z_if_ne (pc := 54) (tgt := 61) hG dX1_ofDigits_54 rfl (fun hc => ?_) (fun hc => ?_)
    · replace h := zif_f hc h
      refine z_iconst (pc := 61) hG kc_m1 dX1_ofDigits_61 ?_
      obtain rfl := Option.some.inj h
      exact z_iret (pc := 62) hG rfl rfl hk dX1_ofDigits_62
    · replace h := zif_t hc h
      refine z_iload_n (pc := 57) hG 1 rfl rfl dX1_ofDigits_57 ?_
      refine z_goto (pc := 58) (tgt := 62) hG dX1_ofDigits_58 rfl ?_
      obtain rfl := Option.some.inj h
      exact z_iret (pc := 62) hG rfl rfl hk dX1_ofDigits_62
  · replace h := zif_f hc h
    refine z_iload_n (pc := 14) hG 0 rfl rfl dX1_ofDigits_14 ?_
    refine z_bipush (pc := 15) hG kb_10 dX1_ofDigits_15 ?_
    refine z_irem (pc := 17) hG (by decide) dX1_ofDigits_17 ?_
    refine z_istore (pc := 18) (ls' := [(5, .int (s.1 - s.1 / (10 : Int32) * (10 : Int32))), (2, .int s.1), (3, .int s.2.1), (4, .int s.2.2)]) hG [0, 1, 2, 3] (by decide) rfl dX1_ofDigits_18 ?_
    refine z_iload (pc := 20) hG 0 rfl dX1_ofDigits_20 ?_
    refine z_if_lt (pc := 22) (tgt := 31) hG dX1_ofDigits_22 rfl (fun hc => ?_) (fun hc => ?_)
    · replace h := zif_t hc h
      replace h := zex_some h
      obtain ⟨o, h, rfl⟩ := h
      refine z_iconst (pc := 31) hG kc_m1 dX1_ofDigits_31 ?_
      obtain rfl := Option.some.inj h
      exact z_iret (pc := 32) hG rfl rfl hk dX1_ofDigits_32
    · replace h := zif_f hc h
      refine z_iload (pc := 25) hG 0 rfl dX1_ofDigits_25 ?_
      refine z_iconst (pc := 27) hG kc_5 dX1_ofDigits_27 ?_
      refine z_icmp_lt (pc := 28) (tgt := 33) hG dX1_ofDigits_28 rfl (fun hc => ?_) (fun hc => ?_)
      · replace h := zif_t hc h
        refine z_iload_n (pc := 33) hG 2 rfl rfl dX1_ofDigits_33 ?_
        refine z_iload (pc := 34) hG 3 rfl dX1_ofDigits_34 ?_
        refine z_iload (pc := 36) hG 0 rfl dX1_ofDigits_36 ?_
        replace h := zbind h
        obtain ⟨v1, hv1, h⟩ := h
        refine z_csI (pc := 38) (A' := 0) (B' := 0) hG [.int s.2.1, .int s.2.2, .int (s.1 - s.1 / (10 : Int32) * (10 : Int32))] [] (tX1_withAnswer hl0 s.2.1 s.2.2 (s.1 - s.1 / (10 : Int32) * (10 : Int32)) g hv1) zy_X1_withAnswer w221 w220 dX1_ofDigits_38 rfl (Nat.le_of_ble_eq_true rfl) rfl rfl rfl (Nat.le_of_ble_eq_true rfl) rfl ?_
        refine z_istore_n (pc := 41) (ls' := [(3, .int v1), (5, .int (s.1 - s.1 / (10 : Int32) * (10 : Int32))), (2, .int s.1), (4, .int s.2.2)]) hG [0, 1, 2, 3] rfl (by decide) rfl dX1_ofDigits_41 ?_
        refine z_iload_n (pc := 42) hG 2 rfl rfl dX1_ofDigits_42 ?_
        refine z_bipush (pc := 43) hG kb_10 dX1_ofDigits_43 ?_
        refine z_idiv (pc := 45) hG (by decide) dX1_ofDigits_45 ?_
        refine z_istore_n (pc := 46) (ls' := [(2, .int (s.1 / (10 : Int32))), (3, .int v1), (5, .int (s.1 - s.1 / (10 : Int32) * (10 : Int32))), (4, .int s.2.2)]) hG [0, 1, 2, 3] rfl (by decide) rfl dX1_ofDigits_46 ?_
        refine z_iinc (pc := 47) (ls' := [(4, .int (s.2.2 + (-1 : Int32))), (2, .int (s.1 / (10 : Int32))), (3, .int v1), (5, .int (s.1 - s.1 / (10 : Int32) * (10 : Int32)))]) hG 3 rfl [0, 1, 2, 3] (ki_m1 _) (by decide) rfl dX1_ofDigits_47 ?_
        refine z_goto (pc := 50) (tgt := 9) hG dX1_ofDigits_50 rfl ?_
        obtain rfl := Option.some.inj h
        refine z_sub (ls' := [(2, .int (s.1 / (10 : Int32))), (3, .int v1), (4, .int (s.2.2 + (-1 : Int32)))]) [1, 2, 0] rfl ?_
        exact hk
      · replace h := zif_f hc h
        replace h := zex_some h
        obtain ⟨o, h, rfl⟩ := h
        refine z_iconst (pc := 31) hG kc_m1 dX1_ofDigits_31 ?_
        obtain rfl := Option.some.inj h
        exact z_iret (pc := 32) hG rfl rfl hk dX1_ofDigits_32
set_option maxHeartbeats 60000 in
theorem tX1_ofDigits {l : Launch} (hl0 : l.flags = flags0) (a0 : Int32) (a1 : Int32) (g : zS) {r : Int32} (h : nX1_ofDigits a0 a1 = some r) : zC l yX1_ofDigits cX1_ofDigits 6 ((Option.some Jvm.ClassFile.FieldType.int)) 1 0 0 [.int a0, .int a1] zD g (.inl (some (.int r)), zD, g) := by
  refine zC_of hl0 rfl (Nat.le_of_ble_eq_true rfl) (fun x hG hxl hk _ => ?_)
  subst hxl
  show zK x 1 0 [(0, .int a0), (1, .int a1)] [] zD g 0 0
  unfold nX1_ofDigits at h
  refine z_iload_n (pc := 0) hG 0 rfl rfl dX1_ofDigits_0 ?_
  refine z_istore_n (pc := 1) (ls' := [(2, .int a0), (0, .int a0), (1, .int a1)]) hG [0, 1, 2] rfl (by decide) rfl dX1_ofDigits_1 ?_
  refine z_iconst (pc := 2) hG kc_0 dX1_ofDigits_2 ?_
  refine z_istore_n (pc := 3) (ls' := [(3, .int (0 : Int32)), (2, .int a0), (0, .int a0), (1, .int a1)]) hG [0, 1, 2, 3] rfl (by decide) rfl dX1_ofDigits_3 ?_
  refine z_iload_n (pc := 4) hG 3 rfl rfl dX1_ofDigits_4 ?_
  refine z_iconst (pc := 5) hG kc_1 dX1_ofDigits_5 ?_
  refine z_isub (pc := 6) hG dX1_ofDigits_6 ?_
  refine z_istore (pc := 7) (ls' := [(4, .int (a1 - (1 : Int32))), (3, .int (0 : Int32)), (2, .int a0), (0, .int a0), (1, .int a1)]) hG [0, 1, 2, 3, 4] (by decide) rfl dX1_ofDigits_7 ?_
  refine z_sub (ls' := [(2, .int a0), (3, .int (0 : Int32)), (4, .int (a1 - (1 : Int32)))]) [2, 1, 0] rfl ?_
  exact kwX1_ofDigits_9 hG hl0 g hk (a0, (0 : Int32), (a1 - (1 : Int32))) h
noncomputable def nX1_answerAt (a0 : Int32) (a1 : Int32) : Option Int32 :=
  some ((((a0 >>> (((3 : Int32) * a1) &&& 31)) &&& (7 : Int32)) - (1 : Int32)))
set_option maxHeartbeats 60000 in
theorem tX1_answerAt {l : Launch} (hl0 : l.flags = flags0) (a0 : Int32) (a1 : Int32) (g : zS) {r : Int32} (h : nX1_answerAt a0 a1 = some r) : zC l yX1_answerAt cX1_answerAt 2 ((Option.some Jvm.ClassFile.FieldType.int)) 0 0 0 [.int a0, .int a1] zD g (.inl (some (.int r)), zD, g) := by
  refine zC_of hl0 rfl (Nat.le_of_ble_eq_true rfl) (fun x hG hxl hk _ => ?_)
  subst hxl
  show zK x 0 0 [(0, .int a0), (1, .int a1)] [] zD g 0 0
  unfold nX1_answerAt at h
  refine z_iload_n (pc := 0) hG 0 rfl rfl dX1_answerAt_0 ?_
  refine z_iconst (pc := 1) hG kc_3 dX1_answerAt_1 ?_
  refine z_iload_n (pc := 2) hG 1 rfl rfl dX1_answerAt_2 ?_
  refine z_imul (pc := 3) hG dX1_answerAt_3 ?_
  refine z_ishr (pc := 4) hG dX1_answerAt_4 ?_
  refine z_bipush (pc := 5) hG kb_7 dX1_answerAt_5 ?_
  refine z_iand (pc := 7) hG dX1_answerAt_7 ?_
  refine z_iconst (pc := 8) hG kc_1 dX1_answerAt_8 ?_
  refine z_isub (pc := 9) hG dX1_answerAt_9 ?_
  obtain rfl := Option.some.inj h
  exact z_iret (pc := 10) hG rfl rfl hk dX1_answerAt_10
noncomputable def wX6_holdsForm_2 (a1 : Int32) (g : zS) (s : Int32) : Option (Int32 ⊕ Int32) :=
  if (g.1 3 0) ≤ s then (zex (if (g.1 3 0) ≤ 0 then (some ((0 : Int32))) else (some ((1 : Int32))))) else ((nX1_answerAt a1 s).bind fun v1 => if v1 < 0 then (zex (some ((0 : Int32)))) else (zchk (zin s 5) (if v1 < (g.1 4 s.toNatClampNeg) then (some (.inl (s + (1 : Int32)))) else (zex (some ((0 : Int32)))))))
noncomputable def nX6_holdsForm (a1 : Int32) (g : zS) : Option Int32 :=
  wh (wX6_holdsForm_2 a1 g) (0 : Int32)
def qX6_holdsForm_2 (x : zXx) (a1 : Int32) (g : zS) (o : Int32 ⊕ Int32) : Prop := match o with
  | .inl s => zK x 1 2 [(0, .ref 3), (1, .int a1), (2, .int s)] [] zD g 0 0
  | .inr r => ztg x = (.inl (some (.int r)), zD, g)
set_option maxHeartbeats 60000 in
theorem kwX6_holdsForm_2 {x : zXx} (hG : zG x cX6_holdsForm 4 RX6 ((Option.some Jvm.ClassFile.FieldType.boolean))) (hl0 : (zl0 x).flags = flags0) (a1 : Int32) (g : zS) {o : Int32} (hk : ztg x = (.inl (some (.int o)), zD, g)) : ∀ s : Int32, wh (wX6_holdsForm_2 a1 g) s = some o → zK x 1 2 [(0, .ref 3), (1, .int a1), (2, .int s)] [] zD g 0 0 := by
  refine wh_ind (fun s : Int32 => zK x 1 2 [(0, .ref 3), (1, .int a1), (2, .int s)] [] zD g 0 0) (fun s o h hk2 => ?_)
  replace hk : qX6_holdsForm_2 x a1 g o := by
    cases o with
    | inl s => exact hk2
    | inr r => subst hk2; exact hk
  clear hk2
  unfold wX6_holdsForm_2 at h
  refine z_iload_n (pc := 2) hG 2 rfl rfl dX6_holdsForm_2 ?_
  refine z_aload_n (pc := 3) hG 0 rfl rfl dX6_holdsForm_3 ?_
  refine z_geti (pc := 4) hG zc_X6 inX6 DL_3 0 rfl (by decide) rfl w532 dX6_holdsForm_4 ?_
  refine z_icmp_ge (pc := 7) (tgt := 38) hG dX6_holdsForm_7 rfl (fun hc => ?_) (fun hc => ?_)
  · replace h := zif_t hc h
    replace h := zex_some h
    obtain ⟨o, h, rfl⟩ := h
    refine z_aload_n (pc := 38) hG 0 rfl rfl dX6_holdsForm_38 ?_
    refine z_geti (pc := 39) hG zc_X6 inX6 DL_3 0 rfl (by decide) rfl w532 dX6_holdsForm_39 ?_
    refine z_if_le (pc := 42) (tgt := 49) hG dX6_holdsForm_42 rfl (fun hc => ?_) (fun hc => ?_)
    · replace h := zif_t hc h
      refine z_iconst (pc := 49) hG kc_0 dX6_holdsForm_49 ?_
      obtain rfl := Option.some.inj h
      exact z_iret (pc := 50) hG rfl rfl hk dX6_holdsForm_50
    · replace h := zif_f hc h
      refine z_iconst (pc := 45) hG kc_1 dX6_holdsForm_45 ?_
      refine z_goto (pc := 46) (tgt := 50) hG dX6_holdsForm_46 rfl ?_
      obtain rfl := Option.some.inj h
      exact z_iret (pc := 50) hG rfl rfl hk dX6_holdsForm_50
  · replace h := zif_f hc h
    refine z_iload_n (pc := 10) hG 1 rfl rfl dX6_holdsForm_10 ?_
    refine z_iload_n (pc := 11) hG 2 rfl rfl dX6_holdsForm_11 ?_
    replace h := zbind h
    obtain ⟨v1, hv1, h⟩ := h
    refine z_csI (pc := 12) (A' := 0) (B' := 0) hG [.int a1, .int s] [] (tX1_answerAt hl0 a1 s g hv1) zy_X1_answerAt w228 w227 dX6_holdsForm_12 rfl (Nat.le_of_ble_eq_true rfl) rfl rfl rfl (Nat.le_of_ble_eq_true rfl) rfl ?_
    refine z_istore_n (pc := 15) (ls' := [(3, .int v1), (0, .ref 3), (1, .int a1), (2, .int s)]) hG [0, 1, 2, 3] rfl (by decide) rfl dX6_holdsForm_15 ?_
    refine z_iload_n (pc := 16) hG 0 rfl rfl dX6_holdsForm_16 ?_
    refine z_if_lt (pc := 17) (tgt := 30) hG dX6_holdsForm_17 rfl (fun hc => ?_) (fun hc => ?_)
    · replace h := zif_t hc h
      replace h := zex_some h
      obtain ⟨o, h, rfl⟩ := h
      refine z_iconst (pc := 30) hG kc_0 dX6_holdsForm_30 ?_
      obtain rfl := Option.some.inj h
      exact z_iret (pc := 31) hG rfl rfl hk dX6_holdsForm_31
    · replace h := zif_f hc h
      refine z_iload_n (pc := 20) hG 0 rfl rfl dX6_holdsForm_20 ?_
      refine z_aload_n (pc := 21) hG 1 rfl rfl dX6_holdsForm_21 ?_
      refine z_getr (pc := 22) hG zc_X6 inX6 DL_3 1 rfl (by decide) rfl w538 dX6_holdsForm_22 ?_
      refine z_iload_n (pc := 25) hG 3 rfl rfl dX6_holdsForm_25 ?_
      replace h := zchk_some h
      obtain ⟨hc, h⟩ := h
      refine z_iald (pc := 26) hG DL_4 (zin_in hc) dX6_holdsForm_26 ?_
      refine z_icmp_lt (pc := 27) (tgt := 32) hG dX6_holdsForm_27 rfl (fun hc => ?_) (fun hc => ?_)
      · replace h := zif_t hc h
        refine z_iinc (pc := 32) (ls' := [(2, .int (s + (1 : Int32))), (3, .int v1), (0, .ref 3), (1, .int a1)]) hG 3 rfl [0, 1, 2, 3] (ki_1 _) (by decide) rfl dX6_holdsForm_32 ?_
        refine z_goto (pc := 35) (tgt := 2) hG dX6_holdsForm_35 rfl ?_
        obtain rfl := Option.some.inj h
        refine z_sub (ls' := [(0, .ref 3), (1, .int a1), (2, .int (s + (1 : Int32)))]) [2, 3, 0] rfl ?_
        exact hk
      · replace h := zif_f hc h
        replace h := zex_some h
        obtain ⟨o, h, rfl⟩ := h
        refine z_iconst (pc := 30) hG kc_0 dX6_holdsForm_30 ?_
        obtain rfl := Option.some.inj h
        exact z_iret (pc := 31) hG rfl rfl hk dX6_holdsForm_31
set_option maxHeartbeats 60000 in
theorem tX6_holdsForm {l : Launch} (hl0 : l.flags = flags0) (a1 : Int32) (g : zS) {r : Int32} (h : nX6_holdsForm a1 g = some r) : zC l yX6_holdsForm cX6_holdsForm 4 ((Option.some Jvm.ClassFile.FieldType.boolean)) 1 0 0 [.ref 3, .int a1] zD g (.inl (some (.int r)), zD, g) := by
  refine zC_of hl0 rfl (Nat.le_of_ble_eq_true rfl) (fun x hG hxl hk _ => ?_)
  subst hxl
  show zK x 1 0 [(0, .ref 3), (1, .int a1)] [] zD g 0 0
  unfold nX6_holdsForm at h
  refine z_iconst (pc := 0) hG kc_0 dX6_holdsForm_0 ?_
  refine z_istore_n (pc := 1) (ls' := [(2, .int (0 : Int32)), (0, .ref 3), (1, .int a1)]) hG [0, 1, 2] rfl (by decide) rfl dX6_holdsForm_1 ?_
  refine z_sub (ls' := [(0, .ref 3), (1, .int a1), (2, .int (0 : Int32))]) [1, 2, 0] rfl ?_
  exact kwX6_holdsForm_2 hG hl0 a1 g hk (0 : Int32) h
noncomputable def wX5_editsLeft_11 (a1 : Int32) (a2 : Int32) (g : zS) (s : (Int32 × Int32)) : Option ((Int32 × Int32) ⊕ Int32) :=
  if (g.1 3 0) ≤ s.2 then (zex (some (s.1))) else (if ((a2 >>> (s.2 &&& 31)) &&& (1 : Int32)) = 0 then ((nX1_answerAt a1 s.2).bind fun v2 => (nX5_editsOfAnswer s.2 v2 g).bind fun v3 => some (.inl ((s.1 &&& v3), (s.2 + (1 : Int32))))) else (some (.inl (s.1, (s.2 + (1 : Int32))))))
noncomputable def nX5_editsLeft (a1 : Int32) (a2 : Int32) (g : zS) : Option Int32 :=
  (nX6_allEdits g).bind fun v1 => wh (wX5_editsLeft_11 a1 a2 g) (v1, (0 : Int32))
def qX5_editsLeft_11 (x : zXx) (a1 : Int32) (a2 : Int32) (g : zS) (o : (Int32 × Int32) ⊕ Int32) : Prop := match o with
  | .inl s => zK x 1 11 [(0, .ref 20), (1, .int a1), (2, .int a2), (3, .int s.1), (4, .int s.2)] [] zD g 0 0
  | .inr r => ztg x = (.inl (some (.int r)), zD, g)
set_option maxHeartbeats 60000 in
theorem kwX5_editsLeft_11 {x : zXx} (hG : zG x cX5_editsLeft 5 RX5 ((Option.some Jvm.ClassFile.FieldType.int))) (hl0 : (zl0 x).flags = flags0) (a1 : Int32) (a2 : Int32) (g : zS) {o : Int32} (hk : ztg x = (.inl (some (.int o)), zD, g)) : ∀ s : (Int32 × Int32), wh (wX5_editsLeft_11 a1 a2 g) s = some o → zK x 1 11 [(0, .ref 20), (1, .int a1), (2, .int a2), (3, .int s.1), (4, .int s.2)] [] zD g 0 0 := by
  refine wh_ind (fun s : (Int32 × Int32) => zK x 1 11 [(0, .ref 20), (1, .int a1), (2, .int a2), (3, .int s.1), (4, .int s.2)] [] zD g 0 0) (fun s o h hk2 => ?_)
  replace hk : qX5_editsLeft_11 x a1 a2 g o := by
    cases o with
    | inl s => exact hk2
    | inr r => subst hk2; exact hk
  clear hk2
  unfold wX5_editsLeft_11 at h
  refine z_iload (pc := 11) hG 4 rfl dX5_editsLeft_11 ?_
  refine z_aload_n (pc := 13) hG 0 rfl rfl dX5_editsLeft_13 ?_
  refine z_getr (pc := 14) hG zc_X5 inX5 DL_20 0 rfl (by decide) rfl w619 dX5_editsLeft_14 ?_
  refine z_geti (pc := 17) hG zc_X6 inX6 DL_3 0 rfl (by decide) rfl w533 dX5_editsLeft_17 ?_
  refine z_icmp_ge (pc := 20) (tgt := 53) hG dX5_editsLeft_20 rfl (fun hc => ?_) (fun hc => ?_)
  · replace h := zif_t hc h
    replace h := zex_some h
    obtain ⟨o, h, rfl⟩ := h
    refine z_iload_n (pc := 53) hG 3 rfl rfl dX5_editsLeft_53 ?_
    obtain rfl := Option.some.inj h
    exact z_iret (pc := 54) hG rfl rfl hk dX5_editsLeft_54
  · replace h := zif_f hc h
    refine z_iload_n (pc := 23) hG 2 rfl rfl dX5_editsLeft_23 ?_
    refine z_iload (pc := 24) hG 4 rfl dX5_editsLeft_24 ?_
    refine z_ishr (pc := 26) hG dX5_editsLeft_26 ?_
    refine z_iconst (pc := 27) hG kc_1 dX5_editsLeft_27 ?_
    refine z_iand (pc := 28) hG dX5_editsLeft_28 ?_
    refine z_if_ne (pc := 29) (tgt := 47) hG dX5_editsLeft_29 rfl (fun hc => ?_) (fun hc => ?_)
    · replace h := zif_f hc h
      refine z_iinc (pc := 47) (ls' := [(4, .int (s.2 + (1 : Int32))), (0, .ref 20), (1, .int a1), (2, .int a2), (3, .int s.1)]) hG 4 rfl [0, 1, 2, 3, 4] (ki_1 _) (by decide) rfl dX5_editsLeft_47 ?_
      refine z_goto (pc := 50) (tgt := 11) hG dX5_editsLeft_50 rfl ?_
      obtain rfl := Option.some.inj h
      refine z_sub (ls' := [(0, .ref 20), (1, .int a1), (2, .int a2), (3, .int s.1), (4, .int (s.2 + (1 : Int32)))]) [1, 2, 3, 4, 0] rfl ?_
      exact hk
    · replace h := zif_t hc h
      refine z_iload_n (pc := 32) hG 3 rfl rfl dX5_editsLeft_32 ?_
      refine z_aload_n (pc := 33) hG 0 rfl rfl dX5_editsLeft_33 ?_
      refine z_iload (pc := 34) hG 4 rfl dX5_editsLeft_34 ?_
      refine z_iload_n (pc := 36) hG 1 rfl rfl dX5_editsLeft_36 ?_
      refine z_iload (pc := 37) hG 4 rfl dX5_editsLeft_37 ?_
      replace h := zbind h
      obtain ⟨v2, hv2, h⟩ := h
      refine z_csI (pc := 39) (A' := 0) (B' := 0) hG [.int a1, .int s.2] [.int s.2, .ref 20, .int s.1] (tX1_answerAt hl0 a1 s.2 g hv2) zy_X1_answerAt w228 w258 dX5_editsLeft_39 rfl (Nat.le_of_ble_eq_true rfl) rfl rfl rfl (Nat.le_of_ble_eq_true rfl) rfl ?_
      replace h := zbind h
      obtain ⟨v3, hv3, h⟩ := h
      refine z_cvI (pc := 42) (A' := 0) (B' := 0) hG [.int s.2, .int v2] [.int s.1] zc_X5 DL_20 (tX5_editsOfAnswer hl0 s.2 v2 g hv3) zy_X5_editsOfAnswer ⟨w145, w146⟩ w162 dX5_editsLeft_42 rfl (Nat.le_of_ble_eq_true rfl) rfl rfl rfl (Nat.le_of_ble_eq_true rfl) rfl ?_
      refine z_iand (pc := 45) hG dX5_editsLeft_45 ?_
      refine z_istore_n (pc := 46) (ls' := [(3, .int (s.1 &&& v3)), (0, .ref 20), (1, .int a1), (2, .int a2), (4, .int s.2)]) hG [0, 1, 2, 3, 4] rfl (by decide) rfl dX5_editsLeft_46 ?_
      refine z_iinc (pc := 47) (ls' := [(4, .int (s.2 + (1 : Int32))), (3, .int (s.1 &&& v3)), (0, .ref 20), (1, .int a1), (2, .int a2)]) hG 4 rfl [0, 1, 2, 3, 4] (ki_1 _) (by decide) rfl dX5_editsLeft_47 ?_
      refine z_goto (pc := 50) (tgt := 11) hG dX5_editsLeft_50 rfl ?_
      obtain rfl := Option.some.inj h
      refine z_sub (ls' := [(0, .ref 20), (1, .int a1), (2, .int a2), (3, .int (s.1 &&& v3)), (4, .int (s.2 + (1 : Int32)))]) [2, 3, 4, 1, 0] rfl ?_
      exact hk
set_option maxHeartbeats 60000 in
theorem tX5_editsLeft {l : Launch} (hl0 : l.flags = flags0) (a1 : Int32) (a2 : Int32) (g : zS) {r : Int32} (h : nX5_editsLeft a1 a2 g = some r) : zC l yX5_editsLeft cX5_editsLeft 5 ((Option.some Jvm.ClassFile.FieldType.int)) 1 0 0 [.ref 20, .int a1, .int a2] zD g (.inl (some (.int r)), zD, g) := by
  refine zC_of hl0 rfl (Nat.le_of_ble_eq_true rfl) (fun x hG hxl hk _ => ?_)
  subst hxl
  show zK x 1 0 [(0, .ref 20), (1, .int a1), (2, .int a2)] [] zD g 0 0
  unfold nX5_editsLeft at h
  refine z_aload_n (pc := 0) hG 0 rfl rfl dX5_editsLeft_0 ?_
  refine z_getr (pc := 1) hG zc_X5 inX5 DL_20 0 rfl (by decide) rfl w619 dX5_editsLeft_1 ?_
  replace h := zbind h
  obtain ⟨v1, hv1, h⟩ := h
  refine z_cvI (pc := 4) (A' := 0) (B' := 0) hG [] [] zc_X6 DL_3 (tX6_allEdits hl0  g hv1) zy_X6_allEdits ⟨w255, w256⟩ w254 dX5_editsLeft_4 rfl (Nat.le_of_ble_eq_true rfl) rfl rfl rfl (Nat.le_of_ble_eq_true rfl) rfl ?_
  refine z_istore_n (pc := 7) (ls' := [(3, .int v1), (0, .ref 20), (1, .int a1), (2, .int a2)]) hG [0, 1, 2, 3] rfl (by decide) rfl dX5_editsLeft_7 ?_
  refine z_iconst (pc := 8) hG kc_0 dX5_editsLeft_8 ?_
  refine z_istore (pc := 9) (ls' := [(4, .int (0 : Int32)), (3, .int v1), (0, .ref 20), (1, .int a1), (2, .int a2)]) hG [0, 1, 2, 3, 4] (by decide) rfl dX5_editsLeft_9 ?_
  refine z_sub (ls' := [(0, .ref 20), (1, .int a1), (2, .int a2), (3, .int v1), (4, .int (0 : Int32))]) [2, 3, 4, 1, 0] rfl ?_
  exact kwX5_editsLeft_11 hG hl0 a1 a2 g hk (v1, (0 : Int32)) h
noncomputable def nX5_editsFailed (a1 : Int32) (g : zS) : Option Int32 :=
  (nX5_editsLeft a1 (0 : Int32) g).bind fun v1 => some (v1)
set_option maxHeartbeats 60000 in
theorem tX5_editsFailed {l : Launch} (hl0 : l.flags = flags0) (a1 : Int32) (g : zS) {r : Int32} (h : nX5_editsFailed a1 g = some r) : zC l yX5_editsFailed cX5_editsFailed 2 ((Option.some Jvm.ClassFile.FieldType.int)) 2 0 0 [.ref 20, .int a1] zD g (.inl (some (.int r)), zD, g) := by
  refine zC_of hl0 rfl (Nat.le_of_ble_eq_true rfl) (fun x hG hxl hk _ => ?_)
  subst hxl
  show zK x 2 0 [(0, .ref 20), (1, .int a1)] [] zD g 0 0
  unfold nX5_editsFailed at h
  refine z_aload_n (pc := 0) hG 0 rfl rfl dX5_editsFailed_0 ?_
  refine z_iload_n (pc := 1) hG 1 rfl rfl dX5_editsFailed_1 ?_
  refine z_iconst (pc := 2) hG kc_0 dX5_editsFailed_2 ?_
  replace h := zbind h
  obtain ⟨v1, hv1, h⟩ := h
  refine z_cvI (pc := 3) (A' := 0) (B' := 0) hG [.int a1, .int (0 : Int32)] [] zc_X5 DL_20 (tX5_editsLeft hl0 a1 (0 : Int32) g hv1) zy_X5_editsLeft ⟨w251, wp10⟩ w249 dX5_editsFailed_3 rfl (Nat.le_of_ble_eq_true rfl) rfl rfl rfl (Nat.le_of_ble_eq_true rfl) rfl ?_
  obtain rfl := Option.some.inj h
  exact z_iret (pc := 6) hG rfl rfl hk dX5_editsFailed_6
noncomputable def nX8_codeOf (a1 : Int32) (g : zS) : Option Int32 :=
  if a1 < 0 then (some ((0 : Int32))) else (if a1 < (g.1 31 1) then (zchk (zin a1 40) (some ((g.1 32 a1.toNatClampNeg)))) else (some ((0 : Int32))))
set_option maxHeartbeats 60000 in
theorem tX8_codeOf {l : Launch} (hl0 : l.flags = flags0) (a1 : Int32) (g : zS) {r : Int32} (h : nX8_codeOf a1 g = some r) : zC l yX8_codeOf cX8_codeOf 2 ((Option.some Jvm.ClassFile.FieldType.int)) 0 0 0 [.ref 31, .int a1] zD g (.inl (some (.int r)), zD, g) := by
  refine zC_of hl0 rfl (Nat.le_of_ble_eq_true rfl) (fun x hG hxl hk _ => ?_)
  subst hxl
  show zK x 0 0 [(0, .ref 31), (1, .int a1)] [] zD g 0 0
  unfold nX8_codeOf at h
  refine z_iload_n (pc := 0) hG 1 rfl rfl dX8_codeOf_0 ?_
  refine z_if_lt (pc := 1) (tgt := 12) hG dX8_codeOf_1 rfl (fun hc => ?_) (fun hc => ?_)
  · replace h := zif_t hc h
    refine z_iconst (pc := 12) hG kc_0 dX8_codeOf_12 ?_
    refine z_goto (pc := 13) (tgt := 22) hG dX8_codeOf_13 rfl ?_
    obtain rfl := Option.some.inj h
    exact z_iret (pc := 22) hG rfl rfl hk dX8_codeOf_22
  · replace h := zif_f hc h
    refine z_iload_n (pc := 4) hG 1 rfl rfl dX8_codeOf_4 ?_
    refine z_aload_n (pc := 5) hG 0 rfl rfl dX8_codeOf_5 ?_
    refine z_geti (pc := 6) hG zc_X8 inX8 DL_31 1 rfl (by decide) rfl w682 dX8_codeOf_6 ?_
    refine z_icmp_lt (pc := 9) (tgt := 16) hG dX8_codeOf_9 rfl (fun hc => ?_) (fun hc => ?_)
    · replace h := zif_t hc h
      refine z_aload_n (pc := 16) hG 0 rfl rfl dX8_codeOf_16 ?_
      refine z_getr (pc := 17) hG zc_X8 inX8 DL_31 0 rfl (by decide) rfl w679 dX8_codeOf_17 ?_
      refine z_iload_n (pc := 20) hG 1 rfl rfl dX8_codeOf_20 ?_
      replace h := zchk_some h
      obtain ⟨hc, h⟩ := h
      refine z_iald (pc := 21) hG DL_32 (zin_in hc) dX8_codeOf_21 ?_
      obtain rfl := Option.some.inj h
      exact z_iret (pc := 22) hG rfl rfl hk dX8_codeOf_22
    · replace h := zif_f hc h
      refine z_iconst (pc := 12) hG kc_0 dX8_codeOf_12 ?_
      refine z_goto (pc := 13) (tgt := 22) hG dX8_codeOf_13 rfl ?_
      obtain rfl := Option.some.inj h
      exact z_iret (pc := 22) hG rfl rfl hk dX8_codeOf_22
noncomputable def wX1_missingIn_4 (a0 : Int32) (a1 : Int32) (s : (Int32 × Int32)) : Option ((Int32 × Int32) ⊕ Int32) :=
  if a1 ≤ s.2 then (zex (some (s.1))) else ((nX1_answerAt a0 s.2).bind fun v1 => if v1 = (-1 : Int32) then (some (.inl ((s.1 ||| ((1 : Int32) <<< (s.2 &&& 31))), (s.2 + (1 : Int32))))) else (some (.inl (s.1, (s.2 + (1 : Int32))))))
noncomputable def nX1_missingIn (a0 : Int32) (a1 : Int32) : Option Int32 :=
  wh (wX1_missingIn_4 a0 a1) ((0 : Int32), (0 : Int32))
def qX1_missingIn_4 (x : zXx) (a0 : Int32) (a1 : Int32) (g : zS) (o : (Int32 × Int32) ⊕ Int32) : Prop := match o with
  | .inl s => zK x 1 4 [(0, .int a0), (1, .int a1), (2, .int s.1), (3, .int s.2)] [] zD g 0 0
  | .inr r => ztg x = (.inl (some (.int r)), zD, g)
set_option maxHeartbeats 60000 in
theorem kwX1_missingIn_4 {x : zXx} (hG : zG x cX1_missingIn 4 RX1 ((Option.some Jvm.ClassFile.FieldType.int))) (hl0 : (zl0 x).flags = flags0) (a0 : Int32) (a1 : Int32) (g : zS) {o : Int32} (hk : ztg x = (.inl (some (.int o)), zD, g)) : ∀ s : (Int32 × Int32), wh (wX1_missingIn_4 a0 a1) s = some o → zK x 1 4 [(0, .int a0), (1, .int a1), (2, .int s.1), (3, .int s.2)] [] zD g 0 0 := by
  refine wh_ind (fun s : (Int32 × Int32) => zK x 1 4 [(0, .int a0), (1, .int a1), (2, .int s.1), (3, .int s.2)] [] zD g 0 0) (fun s o h hk2 => ?_)
  replace hk : qX1_missingIn_4 x a0 a1 g o := by
    cases o with
    | inl s => exact hk2
    | inr r => subst hk2; exact hk
  clear hk2
  unfold wX1_missingIn_4 at h
  refine z_iload_n (pc := 4) hG 3 rfl rfl dX1_missingIn_4 ?_
  refine z_iload_n (pc := 5) hG 1 rfl rfl dX1_missingIn_5 ?_
  refine z_icmp_ge (pc := 6) (tgt := 30) hG dX1_missingIn_6 rfl (fun hc => ?_) (fun hc => ?_)
  · replace h := zif_t hc h
    replace h := zex_some h
    obtain ⟨o, h, rfl⟩ := h
    refine z_iload_n (pc := 30) hG 2 rfl rfl dX1_missingIn_30 ?_
    obtain rfl := Option.some.inj h
    exact z_iret (pc := 31) hG rfl rfl hk dX1_missingIn_31
  · replace h := zif_f hc h
    refine z_iload_n (pc := 9) hG 0 rfl rfl dX1_missingIn_9 ?_
    refine z_iload_n (pc := 10) hG 3 rfl rfl dX1_missingIn_10 ?_
    replace h := zbind h
    obtain ⟨v1, hv1, h⟩ := h
    refine z_csI (pc := 11) (A' := 0) (B' := 0) hG [.int a0, .int s.2] [] (tX1_answerAt hl0 a0 s.2 g hv1) zy_X1_answerAt w228 w278 dX1_missingIn_11 rfl (Nat.le_of_ble_eq_true rfl) rfl rfl rfl (Nat.le_of_ble_eq_true rfl) rfl ?_
    refine z_iconst (pc := 14) hG kc_m1 dX1_missingIn_14 ?_
    refine z_icmp_ne (pc := 15) (tgt := 24) hG dX1_missingIn_15 rfl (fun hc => ?_) (fun hc => ?_)
    · replace h := zif_f hc h
      refine z_iinc (pc := 24) (ls' := [(3, .int (s.2 + (1 : Int32))), (0, .int a0), (1, .int a1), (2, .int s.1)]) hG 3 rfl [0, 1, 2, 3] (ki_1 _) (by decide) rfl dX1_missingIn_24 ?_
      refine z_goto (pc := 27) (tgt := 4) hG dX1_missingIn_27 rfl ?_
      obtain rfl := Option.some.inj h
      refine z_sub (ls' := [(0, .int a0), (1, .int a1), (2, .int s.1), (3, .int (s.2 + (1 : Int32)))]) [1, 2, 3, 0] rfl ?_
      exact hk
    · replace h := zif_t hc h
      refine z_iload_n (pc := 18) hG 2 rfl rfl dX1_missingIn_18 ?_
      refine z_iconst (pc := 19) hG kc_1 dX1_missingIn_19 ?_
      refine z_iload_n (pc := 20) hG 3 rfl rfl dX1_missingIn_20 ?_
      refine z_ishl (pc := 21) hG dX1_missingIn_21 ?_
      refine z_ior (pc := 22) hG dX1_missingIn_22 ?_
      refine z_istore_n (pc := 23) (ls' := [(2, .int (s.1 ||| ((1 : Int32) <<< (s.2 &&& 31)))), (0, .int a0), (1, .int a1), (3, .int s.2)]) hG [0, 1, 2, 3] rfl (by decide) rfl dX1_missingIn_23 ?_
      refine z_iinc (pc := 24) (ls' := [(3, .int (s.2 + (1 : Int32))), (2, .int (s.1 ||| ((1 : Int32) <<< (s.2 &&& 31)))), (0, .int a0), (1, .int a1)]) hG 3 rfl [0, 1, 2, 3] (ki_1 _) (by decide) rfl dX1_missingIn_24 ?_
      refine z_goto (pc := 27) (tgt := 4) hG dX1_missingIn_27 rfl ?_
      obtain rfl := Option.some.inj h
      refine z_sub (ls' := [(0, .int a0), (1, .int a1), (2, .int (s.1 ||| ((1 : Int32) <<< (s.2 &&& 31)))), (3, .int (s.2 + (1 : Int32)))]) [2, 3, 1, 0] rfl ?_
      exact hk
set_option maxHeartbeats 60000 in
theorem tX1_missingIn {l : Launch} (hl0 : l.flags = flags0) (a0 : Int32) (a1 : Int32) (g : zS) {r : Int32} (h : nX1_missingIn a0 a1 = some r) : zC l yX1_missingIn cX1_missingIn 4 ((Option.some Jvm.ClassFile.FieldType.int)) 1 0 0 [.int a0, .int a1] zD g (.inl (some (.int r)), zD, g) := by
  refine zC_of hl0 rfl (Nat.le_of_ble_eq_true rfl) (fun x hG hxl hk _ => ?_)
  subst hxl
  show zK x 1 0 [(0, .int a0), (1, .int a1)] [] zD g 0 0
  unfold nX1_missingIn at h
  refine z_iconst (pc := 0) hG kc_0 dX1_missingIn_0 ?_
  refine z_istore_n (pc := 1) (ls' := [(2, .int (0 : Int32)), (0, .int a0), (1, .int a1)]) hG [0, 1, 2] rfl (by decide) rfl dX1_missingIn_1 ?_
  refine z_iconst (pc := 2) hG kc_0 dX1_missingIn_2 ?_
  refine z_istore_n (pc := 3) (ls' := [(3, .int (0 : Int32)), (2, .int (0 : Int32)), (0, .int a0), (1, .int a1)]) hG [0, 1, 2, 3] rfl (by decide) rfl dX1_missingIn_3 ?_
  refine z_sub (ls' := [(0, .int a0), (1, .int a1), (2, .int (0 : Int32)), (3, .int (0 : Int32))]) [2, 3, 1, 0] rfl ?_
  exact kwX1_missingIn_4 hG hl0 a0 a1 g hk ((0 : Int32), (0 : Int32)) h
noncomputable def nX0_bitOf (a0 : Int32) (a1 : Int32) : Option Int32 :=
  some (((1 : Int32) <<< ((((5 : Int32) * a0) + a1) &&& 31)))
set_option maxHeartbeats 60000 in
theorem tX0_bitOf {l : Launch} (hl0 : l.flags = flags0) (a0 : Int32) (a1 : Int32) (g : zS) {r : Int32} (h : nX0_bitOf a0 a1 = some r) : zC l yX0_bitOf cX0_bitOf 2 ((Option.some Jvm.ClassFile.FieldType.int)) 0 0 0 [.int a0, .int a1] zD g (.inl (some (.int r)), zD, g) := by
  refine zC_of hl0 rfl (Nat.le_of_ble_eq_true rfl) (fun x hG hxl hk _ => ?_)
  subst hxl
  show zK x 0 0 [(0, .int a0), (1, .int a1)] [] zD g 0 0
  unfold nX0_bitOf at h
  refine z_iconst (pc := 0) hG kc_1 dX0_bitOf_0 ?_
  refine z_iconst (pc := 1) hG kc_5 dX0_bitOf_1 ?_
  refine z_iload_n (pc := 2) hG 0 rfl rfl dX0_bitOf_2 ?_
  refine z_imul (pc := 3) hG dX0_bitOf_3 ?_
  refine z_iload_n (pc := 4) hG 1 rfl rfl dX0_bitOf_4 ?_
  refine z_iadd (pc := 5) hG dX0_bitOf_5 ?_
  refine z_ishl (pc := 6) hG dX0_bitOf_6 ?_
  obtain rfl := Option.some.inj h
  exact z_iret (pc := 7) hG rfl rfl hk dX0_bitOf_7
noncomputable def wX0_formOf_4 (a1 : Int32) (g : zS) (s : (Int32 × Int32)) : Option ((Int32 × Int32) ⊕ Int32) :=
  if (g.1 3 0) ≤ s.2 then (zex (some (s.1))) else ((nX1_answerAt a1 s.2).bind fun v1 => (nX0_bitOf s.2 v1).bind fun v2 => some (.inl ((s.1 ||| v2), (s.2 + (1 : Int32)))))
noncomputable def nX0_formOf (a1 : Int32) (g : zS) : Option Int32 :=
  wh (wX0_formOf_4 a1 g) ((0 : Int32), (0 : Int32))
def qX0_formOf_4 (x : zXx) (a1 : Int32) (g : zS) (o : (Int32 × Int32) ⊕ Int32) : Prop := match o with
  | .inl s => zK x 1 4 [(0, .ref 26), (1, .int a1), (2, .int s.1), (3, .int s.2)] [] zD g 0 0
  | .inr r => ztg x = (.inl (some (.int r)), zD, g)
set_option maxHeartbeats 60000 in
theorem kwX0_formOf_4 {x : zXx} (hG : zG x cX0_formOf 4 RX0 ((Option.some Jvm.ClassFile.FieldType.int))) (hl0 : (zl0 x).flags = flags0) (a1 : Int32) (g : zS) {o : Int32} (hk : ztg x = (.inl (some (.int o)), zD, g)) : ∀ s : (Int32 × Int32), wh (wX0_formOf_4 a1 g) s = some o → zK x 1 4 [(0, .ref 26), (1, .int a1), (2, .int s.1), (3, .int s.2)] [] zD g 0 0 := by
  refine wh_ind (fun s : (Int32 × Int32) => zK x 1 4 [(0, .ref 26), (1, .int a1), (2, .int s.1), (3, .int s.2)] [] zD g 0 0) (fun s o h hk2 => ?_)
  replace hk : qX0_formOf_4 x a1 g o := by
    cases o with
    | inl s => exact hk2
    | inr r => subst hk2; exact hk
  clear hk2
  unfold wX0_formOf_4 at h
  refine z_iload_n (pc := 4) hG 3 rfl rfl dX0_formOf_4 ?_
  refine z_aload_n (pc := 5) hG 0 rfl rfl dX0_formOf_5 ?_
  refine z_getr (pc := 6) hG zc_X0 inX0 DL_26 0 rfl (by decide) rfl w648 dX0_formOf_6 ?_
  refine z_geti (pc := 9) hG zc_X6 inX6 DL_3 0 rfl (by decide) rfl w536 dX0_formOf_9 ?_
  refine z_icmp_ge (pc := 12) (tgt := 33) hG dX0_formOf_12 rfl (fun hc => ?_) (fun hc => ?_)
  · replace h := zif_t hc h
    replace h := zex_some h
    obtain ⟨o, h, rfl⟩ := h
    refine z_iload_n (pc := 33) hG 2 rfl rfl dX0_formOf_33 ?_
    obtain rfl := Option.some.inj h
    exact z_iret (pc := 34) hG rfl rfl hk dX0_formOf_34
  · replace h := zif_f hc h
    refine z_iload_n (pc := 15) hG 2 rfl rfl dX0_formOf_15 ?_
    refine z_iload_n (pc := 16) hG 3 rfl rfl dX0_formOf_16 ?_
    refine z_iload_n (pc := 17) hG 1 rfl rfl dX0_formOf_17 ?_
    refine z_iload_n (pc := 18) hG 3 rfl rfl dX0_formOf_18 ?_
    replace h := zbind h
    obtain ⟨v1, hv1, h⟩ := h
    refine z_csI (pc := 19) (A' := 0) (B' := 0) hG [.int a1, .int s.2] [.int s.2, .int s.1] (tX1_answerAt hl0 a1 s.2 g hv1) zy_X1_answerAt w228 w302 dX0_formOf_19 rfl (Nat.le_of_ble_eq_true rfl) rfl rfl rfl (Nat.le_of_ble_eq_true rfl) rfl ?_
    replace h := zbind h
    obtain ⟨v2, hv2, h⟩ := h
    refine z_csI (pc := 22) (A' := 0) (B' := 0) hG [.int s.2, .int v1] [.int s.1] (tX0_bitOf hl0 s.2 v1 g hv2) zy_X0_bitOf w304 w303 dX0_formOf_22 rfl (Nat.le_of_ble_eq_true rfl) rfl rfl rfl (Nat.le_of_ble_eq_true rfl) rfl ?_
    refine z_ior (pc := 25) hG dX0_formOf_25 ?_
    refine z_istore_n (pc := 26) (ls' := [(2, .int (s.1 ||| v2)), (0, .ref 26), (1, .int a1), (3, .int s.2)]) hG [0, 1, 2, 3] rfl (by decide) rfl dX0_formOf_26 ?_
    refine z_iinc (pc := 27) (ls' := [(3, .int (s.2 + (1 : Int32))), (2, .int (s.1 ||| v2)), (0, .ref 26), (1, .int a1)]) hG 3 rfl [0, 1, 2, 3] (ki_1 _) (by decide) rfl dX0_formOf_27 ?_
    refine z_goto (pc := 30) (tgt := 4) hG dX0_formOf_30 rfl ?_
    obtain rfl := Option.some.inj h
    refine z_sub (ls' := [(0, .ref 26), (1, .int a1), (2, .int (s.1 ||| v2)), (3, .int (s.2 + (1 : Int32)))]) [2, 3, 1, 0] rfl ?_
    exact hk
set_option maxHeartbeats 60000 in
theorem tX0_formOf {l : Launch} (hl0 : l.flags = flags0) (a1 : Int32) (g : zS) {r : Int32} (h : nX0_formOf a1 g = some r) : zC l yX0_formOf cX0_formOf 4 ((Option.some Jvm.ClassFile.FieldType.int)) 1 0 0 [.ref 26, .int a1] zD g (.inl (some (.int r)), zD, g) := by
  refine zC_of hl0 rfl (Nat.le_of_ble_eq_true rfl) (fun x hG hxl hk _ => ?_)
  subst hxl
  show zK x 1 0 [(0, .ref 26), (1, .int a1)] [] zD g 0 0
  unfold nX0_formOf at h
  refine z_iconst (pc := 0) hG kc_0 dX0_formOf_0 ?_
  refine z_istore_n (pc := 1) (ls' := [(2, .int (0 : Int32)), (0, .ref 26), (1, .int a1)]) hG [0, 1, 2] rfl (by decide) rfl dX0_formOf_1 ?_
  refine z_iconst (pc := 2) hG kc_0 dX0_formOf_2 ?_
  refine z_istore_n (pc := 3) (ls' := [(3, .int (0 : Int32)), (2, .int (0 : Int32)), (0, .ref 26), (1, .int a1)]) hG [0, 1, 2, 3] rfl (by decide) rfl dX0_formOf_3 ?_
  refine z_sub (ls' := [(0, .ref 26), (1, .int a1), (2, .int (0 : Int32)), (3, .int (0 : Int32))]) [2, 3, 1, 0] rfl ?_
  exact kwX0_formOf_4 hG hl0 a1 g hk ((0 : Int32), (0 : Int32)) h
noncomputable def nX3_has (a0 : Int64) (a2 : Int32) : Option Int32 :=
  if (lg_cmp (((a0.toUInt64 >>> (a2.toInt64.toUInt64 &&& Int64.toUInt64 63)).toInt64) &&& (1 : Int64)) (0 : Int64)) = 0 then (some ((0 : Int32))) else (some ((1 : Int32)))
set_option maxHeartbeats 60000 in
theorem tX3_has {l : Launch} (hl0 : l.flags = flags0) (a0 : Int64) (a2 : Int32) (g : zS) {r : Int32} (h : nX3_has a0 a2 = some r) : zC l yX3_has cX3_has 3 ((Option.some Jvm.ClassFile.FieldType.boolean)) 0 0 0 [.long a0, .int a2] zD g (.inl (some (.int r)), zD, g) := by
  refine zC_of hl0 rfl (Nat.le_of_ble_eq_true rfl) (fun x hG hxl hk _ => ?_)
  subst hxl
  show zK x 0 0 [(0, .long a0), (2, .int a2)] [] zD g 0 0
  unfold nX3_has at h
  refine z_lload_n (pc := 0) hG 0 rfl rfl dX3_has_0 ?_
  refine z_iload_n (pc := 1) hG 1 rfl rfl dX3_has_1 ?_
  refine z_lushr (pc := 2) hG dX3_has_2 ?_
  refine z_lconst (pc := 3) hG kl_1 dX3_has_3 ?_
  refine z_land (pc := 4) hG dX3_has_4 ?_
  refine z_lconst (pc := 5) hG kl_0 dX3_has_5 ?_
  refine z_lcmp (pc := 6) hG dX3_has_6 ?_
  refine z_if_eq (pc := 7) (tgt := 14) hG dX3_has_7 rfl (fun hc => ?_) (fun hc => ?_)
  · replace h := zif_t hc h
    refine z_iconst (pc := 14) hG kc_0 dX3_has_14 ?_
    obtain rfl := Option.some.inj h
    exact z_iret (pc := 15) hG rfl rfl hk dX3_has_15
  · replace h := zif_f hc h
    refine z_iconst (pc := 10) hG kc_1 dX3_has_10 ?_
    refine z_goto (pc := 11) (tgt := 15) hG dX3_has_11 rfl ?_
    obtain rfl := Option.some.inj h
    exact z_iret (pc := 15) hG rfl rfl hk dX3_has_15
noncomputable def nX5_canMend (a1 : Int32) (a2 : Int32) (g : zS) : Option Int32 :=
  (nX1_missingIn a1 (g.1 3 0)).bind fun v1 => if (v1 &&& (a2 ^^^ (-1 : Int32))) = 0 then (zchk (zin a2 32) ((nX5_editsLeft a1 a2 g).bind fun v2 => (nX3_has (g.2.1 23 a2.toNatClampNeg) v2).bind fun v3 => if v3 = 0 then (some ((0 : Int32))) else (some ((1 : Int32))))) else (some ((0 : Int32)))
set_option maxHeartbeats 60000 in
theorem tX5_canMend {l : Launch} (hl0 : l.flags = flags0) (a1 : Int32) (a2 : Int32) (g : zS) {r : Int32} (h : nX5_canMend a1 a2 g = some r) : zC l yX5_canMend cX5_canMend 3 ((Option.some Jvm.ClassFile.FieldType.boolean)) 2 0 0 [.ref 20, .int a1, .int a2] zD g (.inl (some (.int r)), zD, g) := by
  refine zC_of hl0 rfl (Nat.le_of_ble_eq_true rfl) (fun x hG hxl hk _ => ?_)
  subst hxl
  show zK x 2 0 [(0, .ref 20), (1, .int a1), (2, .int a2)] [] zD g 0 0
  unfold nX5_canMend at h
  refine z_iload_n (pc := 0) hG 1 rfl rfl dX5_canMend_0 ?_
  refine z_aload_n (pc := 1) hG 0 rfl rfl dX5_canMend_1 ?_
  refine z_getr (pc := 2) hG zc_X5 inX5 DL_20 0 rfl (by decide) rfl w619 dX5_canMend_2 ?_
  refine z_geti (pc := 5) hG zc_X6 inX6 DL_3 0 rfl (by decide) rfl w533 dX5_canMend_5 ?_
  replace h := zbind h
  obtain ⟨v1, hv1, h⟩ := h
  refine z_csI (pc := 8) (A' := 0) (B' := 0) hG [.int a1, .int (g.1 3 0)] [] (tX1_missingIn hl0 a1 (g.1 3 0) g hv1) zy_X1_missingIn w276 w323 dX5_canMend_8 rfl (Nat.le_of_ble_eq_true rfl) rfl rfl rfl (Nat.le_of_ble_eq_true rfl) rfl ?_
  refine z_iload_n (pc := 11) hG 2 rfl rfl dX5_canMend_11 ?_
  refine z_iconst (pc := 12) hG kc_m1 dX5_canMend_12 ?_
  refine z_ixor (pc := 13) hG dX5_canMend_13 ?_
  refine z_iand (pc := 14) hG dX5_canMend_14 ?_
  refine z_if_ne (pc := 15) (tgt := 40) hG dX5_canMend_15 rfl (fun hc => ?_) (fun hc => ?_)
  · replace h := zif_f hc h
    refine z_iconst (pc := 40) hG kc_0 dX5_canMend_40 ?_
    obtain rfl := Option.some.inj h
    exact z_iret (pc := 41) hG rfl rfl hk dX5_canMend_41
  · replace h := zif_t hc h
    refine z_aload_n (pc := 18) hG 0 rfl rfl dX5_canMend_18 ?_
    refine z_getr (pc := 19) hG zc_X5 inX5 DL_20 3 rfl (by decide) rfl w622 dX5_canMend_19 ?_
    refine z_iload_n (pc := 22) hG 2 rfl rfl dX5_canMend_22 ?_
    replace h := zchk_some h
    obtain ⟨hc, h⟩ := h
    refine z_lald (pc := 23) hG DL_23 (zin_in hc) dX5_canMend_23 ?_
    refine z_aload_n (pc := 24) hG 0 rfl rfl dX5_canMend_24 ?_
    refine z_iload_n (pc := 25) hG 1 rfl rfl dX5_canMend_25 ?_
    refine z_iload_n (pc := 26) hG 2 rfl rfl dX5_canMend_26 ?_
    replace h := zbind h
    obtain ⟨v2, hv2, h⟩ := h
    refine z_cvI (pc := 27) (A' := 0) (B' := 0) hG [.int a1, .int a2] [.long (g.2.1 23 a2.toNatClampNeg)] zc_X5 DL_20 (tX5_editsLeft hl0 a1 a2 g hv2) zy_X5_editsLeft ⟨w251, wp10⟩ w249 dX5_canMend_27 rfl (Nat.le_of_ble_eq_true rfl) rfl rfl rfl (Nat.le_of_ble_eq_true rfl) rfl ?_
    replace h := zbind h
    obtain ⟨v3, hv3, h⟩ := h
    refine z_csI (pc := 30) (A' := 0) (B' := 0) hG [.long (g.2.1 23 a2.toNatClampNeg), .int v2] [] (tX3_has hl0 (g.2.1 23 a2.toNatClampNeg) v2 g hv3) zy_X3_has w325 w324 dX5_canMend_30 rfl (Nat.le_of_ble_eq_true rfl) rfl rfl rfl (Nat.le_of_ble_eq_true rfl) rfl ?_
    refine z_if_eq (pc := 33) (tgt := 40) hG dX5_canMend_33 rfl (fun hc => ?_) (fun hc => ?_)
    · replace h := zif_t hc h
      refine z_iconst (pc := 40) hG kc_0 dX5_canMend_40 ?_
      obtain rfl := Option.some.inj h
      exact z_iret (pc := 41) hG rfl rfl hk dX5_canMend_41
    · replace h := zif_f hc h
      refine z_iconst (pc := 36) hG kc_1 dX5_canMend_36 ?_
      refine z_goto (pc := 37) (tgt := 41) hG dX5_canMend_37 rfl ?_
      obtain rfl := Option.some.inj h
      exact z_iret (pc := 41) hG rfl rfl hk dX5_canMend_41
noncomputable def nX5_countWays (a1 : Int32) (a2 : Int32) (g : zS) : Option (Int32 × zS) :=
  (nX5_canMend a1 a2 g).bind fun v1 => if v1 = 0 then (some (((0 : Int32), g))) else ((nX5_editsLeft a1 a2 g).bind fun v2 => (nX5_tallyPassing v2 a2 g).bind fun v3 => some ((v3.1, v3.2)))
set_option maxHeartbeats 60000 in
theorem tX5_countWays {l : Launch} (hl0 : l.flags = flags0) (a1 : Int32) (a2 : Int32) (g : zS) {r : (Int32 × zS)} (h : nX5_countWays a1 a2 g = some r) : zC l yX5_countWays cX5_countWays 3 ((Option.some Jvm.ClassFile.FieldType.int)) 3 0 0 [.ref 20, .int a1, .int a2] zD g (.inl (some (.int r.1)), zD, r.2) := by
  refine zC_of hl0 rfl (Nat.le_of_ble_eq_true rfl) (fun x hG hxl hk _ => ?_)
  subst hxl
  show zK x 3 0 [(0, .ref 20), (1, .int a1), (2, .int a2)] [] zD g 0 0
  unfold nX5_countWays at h
  refine z_aload_n (pc := 0) hG 0 rfl rfl dX5_countWays_0 ?_
  refine z_iload_n (pc := 1) hG 1 rfl rfl dX5_countWays_1 ?_
  refine z_iload_n (pc := 2) hG 2 rfl rfl dX5_countWays_2 ?_
  replace h := zbind h
  obtain ⟨v1, hv1, h⟩ := h
  refine z_cvI (pc := 3) (A' := 0) (B' := 0) hG [.int a1, .int a2] [] zc_X5 DL_20 (tX5_canMend hl0 a1 a2 g hv1) zy_X5_canMend ⟨w320, w321⟩ w335 dX5_countWays_3 rfl (Nat.le_of_ble_eq_true rfl) rfl rfl rfl (Nat.le_of_ble_eq_true rfl) rfl ?_
  refine z_if_eq (pc := 6) (tgt := 23) hG dX5_countWays_6 rfl (fun hc => ?_) (fun hc => ?_)
  · replace h := zif_t hc h
    refine z_iconst (pc := 23) hG kc_0 dX5_countWays_23 ?_
    obtain rfl := Option.some.inj h
    exact z_iret (pc := 24) hG rfl rfl hk dX5_countWays_24
  · replace h := zif_f hc h
    refine z_aload_n (pc := 9) hG 0 rfl rfl dX5_countWays_9 ?_
    refine z_aload_n (pc := 10) hG 0 rfl rfl dX5_countWays_10 ?_
    refine z_iload_n (pc := 11) hG 1 rfl rfl dX5_countWays_11 ?_
    refine z_iload_n (pc := 12) hG 2 rfl rfl dX5_countWays_12 ?_
    replace h := zbind h
    obtain ⟨v2, hv2, h⟩ := h
    refine z_cvI (pc := 13) (A' := 0) (B' := 0) hG [.int a1, .int a2] [.ref 20] zc_X5 DL_20 (tX5_editsLeft hl0 a1 a2 g hv2) zy_X5_editsLeft ⟨w251, wp10⟩ w249 dX5_countWays_13 rfl (Nat.le_of_ble_eq_true rfl) rfl rfl rfl (Nat.le_of_ble_eq_true rfl) rfl ?_
    refine z_iload_n (pc := 16) hG 2 rfl rfl dX5_countWays_16 ?_
    replace h := zbind h
    obtain ⟨v3, hv3, h⟩ := h
    refine z_cvI (pc := 17) (A' := 0) (B' := 0) hG [.int v2, .int a2] [] zc_X5 DL_20 (tX5_tallyPassing hl0 v2 a2 g hv3) zy_X5_tallyPassing ⟨w338, wp15⟩ w336 dX5_countWays_17 rfl (Nat.le_of_ble_eq_true rfl) rfl rfl rfl (Nat.le_of_ble_eq_true rfl) rfl ?_
    refine z_goto (pc := 20) (tgt := 24) hG dX5_countWays_20 rfl ?_
    obtain rfl := Option.some.inj h
    exact z_iret (pc := 24) hG rfl rfl hk dX5_countWays_24
noncomputable def wX5_leastSet_2 (a1 : Int32) (g : zS) (s : Int32) : Option (Int32 ⊕ Int32) :=
  (nX6_allFields g).bind fun v1 => if v1 < s then (zex (some ((-1 : Int32)))) else (zchk (zin s 32) ((nX5_canMend a1 (g.1 22 s.toNatClampNeg) g).bind fun v2 => if v2 = 0 then (some (.inl (s + (1 : Int32)))) else (zex (zchk (zin s 32) (some ((g.1 22 s.toNatClampNeg)))))))
noncomputable def nX5_leastSet (a1 : Int32) (g : zS) : Option Int32 :=
  wh (wX5_leastSet_2 a1 g) (0 : Int32)
def qX5_leastSet_2 (x : zXx) (a1 : Int32) (g : zS) (o : Int32 ⊕ Int32) : Prop := match o with
  | .inl s => zK x 3 2 [(0, .ref 20), (1, .int a1), (2, .int s)] [] zD g 0 0
  | .inr r => ztg x = (.inl (some (.int r)), zD, g)
set_option maxHeartbeats 60000 in
theorem kwX5_leastSet_2 {x : zXx} (hG : zG x cX5_leastSet 3 RX5 ((Option.some Jvm.ClassFile.FieldType.int))) (hl0 : (zl0 x).flags = flags0) (a1 : Int32) (g : zS) {o : Int32} (hk : ztg x = (.inl (some (.int o)), zD, g)) : ∀ s : Int32, wh (wX5_leastSet_2 a1 g) s = some o → zK x 3 2 [(0, .ref 20), (1, .int a1), (2, .int s)] [] zD g 0 0 := by
  refine wh_ind (fun s : Int32 => zK x 3 2 [(0, .ref 20), (1, .int a1), (2, .int s)] [] zD g 0 0) (fun s o h hk2 => ?_)
  replace hk : qX5_leastSet_2 x a1 g o := by
    cases o with
    | inl s => exact hk2
    | inr r => subst hk2; exact hk
  clear hk2
  unfold wX5_leastSet_2 at h
  refine z_iload_n (pc := 2) hG 2 rfl rfl dX5_leastSet_2 ?_
  refine z_aload_n (pc := 3) hG 0 rfl rfl dX5_leastSet_3 ?_
  refine z_getr (pc := 4) hG zc_X5 inX5 DL_20 0 rfl (by decide) rfl w619 dX5_leastSet_4 ?_
  replace h := zbind h
  obtain ⟨v1, hv1, h⟩ := h
  refine z_cvI (pc := 7) (A' := 0) (B' := 0) hG [] [.int s] zc_X6 DL_3 (tX6_allFields hl0  g hv1) zy_X6_allFields ⟨w316, w317⟩ w355 dX5_leastSet_7 rfl (Nat.le_of_ble_eq_true rfl) rfl rfl rfl (Nat.le_of_ble_eq_true rfl) rfl ?_
  refine z_icmp_gt (pc := 10) (tgt := 40) hG dX5_leastSet_10 rfl (fun hc => ?_) (fun hc => ?_)
  · replace h := zif_t hc h
    replace h := zex_some h
    obtain ⟨o, h, rfl⟩ := h
    refine z_iconst (pc := 40) hG kc_m1 dX5_leastSet_40 ?_
    obtain rfl := Option.some.inj h
    exact z_iret (pc := 41) hG rfl rfl hk dX5_leastSet_41
  · replace h := zif_f hc h
    refine z_aload_n (pc := 13) hG 0 rfl rfl dX5_leastSet_13 ?_
    refine z_iload_n (pc := 14) hG 1 rfl rfl dX5_leastSet_14 ?_
    refine z_aload_n (pc := 15) hG 0 rfl rfl dX5_leastSet_15 ?_
    refine z_getr (pc := 16) hG zc_X5 inX5 DL_20 2 rfl (by decide) rfl w621 dX5_leastSet_16 ?_
    refine z_iload_n (pc := 19) hG 2 rfl rfl dX5_leastSet_19 ?_
    replace h := zchk_some h
    obtain ⟨hc, h⟩ := h
    refine z_iald (pc := 20) hG DL_22 (zin_in hc) dX5_leastSet_20 ?_
    replace h := zbind h
    obtain ⟨v2, hv2, h⟩ := h
    refine z_cvI (pc := 21) (A' := 0) (B' := 0) hG [.int a1, .int (g.1 22 s.toNatClampNeg)] [] zc_X5 DL_20 (tX5_canMend hl0 a1 (g.1 22 s.toNatClampNeg) g hv2) zy_X5_canMend ⟨w320, w321⟩ w335 dX5_leastSet_21 rfl (Nat.le_of_ble_eq_true rfl) rfl rfl rfl (Nat.le_of_ble_eq_true rfl) rfl ?_
    refine z_if_eq (pc := 24) (tgt := 34) hG dX5_leastSet_24 rfl (fun hc => ?_) (fun hc => ?_)
    · replace h := zif_t hc h
      refine z_iinc (pc := 34) (ls' := [(2, .int (s + (1 : Int32))), (0, .ref 20), (1, .int a1)]) hG 2 rfl [0, 1, 2] (ki_1 _) (by decide) rfl dX5_leastSet_34 ?_
      refine z_goto (pc := 37) (tgt := 2) hG dX5_leastSet_37 rfl ?_
      obtain rfl := Option.some.inj h
      refine z_sub (ls' := [(0, .ref 20), (1, .int a1), (2, .int (s + (1 : Int32)))]) [1, 2, 0] rfl ?_
      exact hk
    · replace h := zif_f hc h
      replace h := zex_some h
      obtain ⟨o, h, rfl⟩ := h
      refine z_aload_n (pc := 27) hG 0 rfl rfl dX5_leastSet_27 ?_
      refine z_getr (pc := 28) hG zc_X5 inX5 DL_20 2 rfl (by decide) rfl w621 dX5_leastSet_28 ?_
      refine z_iload_n (pc := 31) hG 2 rfl rfl dX5_leastSet_31 ?_
      replace h := zchk_some h
      obtain ⟨hc, h⟩ := h
      refine z_iald (pc := 32) hG DL_22 (zin_in hc) dX5_leastSet_32 ?_
      obtain rfl := Option.some.inj h
      exact z_iret (pc := 33) hG rfl rfl hk dX5_leastSet_33
set_option maxHeartbeats 60000 in
theorem tX5_leastSet {l : Launch} (hl0 : l.flags = flags0) (a1 : Int32) (g : zS) {r : Int32} (h : nX5_leastSet a1 g = some r) : zC l yX5_leastSet cX5_leastSet 3 ((Option.some Jvm.ClassFile.FieldType.int)) 3 0 0 [.ref 20, .int a1] zD g (.inl (some (.int r)), zD, g) := by
  refine zC_of hl0 rfl (Nat.le_of_ble_eq_true rfl) (fun x hG hxl hk _ => ?_)
  subst hxl
  show zK x 3 0 [(0, .ref 20), (1, .int a1)] [] zD g 0 0
  unfold nX5_leastSet at h
  refine z_iconst (pc := 0) hG kc_0 dX5_leastSet_0 ?_
  refine z_istore_n (pc := 1) (ls' := [(2, .int (0 : Int32)), (0, .ref 20), (1, .int a1)]) hG [0, 1, 2] rfl (by decide) rfl dX5_leastSet_1 ?_
  refine z_sub (ls' := [(0, .ref 20), (1, .int a1), (2, .int (0 : Int32))]) [1, 2, 0] rfl ?_
  exact kwX5_leastSet_2 hG hl0 a1 g hk (0 : Int32) h
noncomputable def nX5_leastWeight (a1 : Int32) (g : zS) : Option Int32 :=
  (nX5_leastSet a1 g).bind fun v1 => if v1 = (-1 : Int32) then (some ((-1 : Int32))) else ((nX6_weightOf v1 g).bind fun v2 => some (v2))
set_option maxHeartbeats 60000 in
theorem tX5_leastWeight {l : Launch} (hl0 : l.flags = flags0) (a1 : Int32) (g : zS) {r : Int32} (h : nX5_leastWeight a1 g = some r) : zC l yX5_leastWeight cX5_leastWeight 3 ((Option.some Jvm.ClassFile.FieldType.int)) 4 0 0 [.ref 20, .int a1] zD g (.inl (some (.int r)), zD, g) := by
  refine zC_of hl0 rfl (Nat.le_of_ble_eq_true rfl) (fun x hG hxl hk _ => ?_)
  subst hxl
  show zK x 4 0 [(0, .ref 20), (1, .int a1)] [] zD g 0 0
  unfold nX5_leastWeight at h
  refine z_aload_n (pc := 0) hG 0 rfl rfl dX5_leastWeight_0 ?_
  refine z_iload_n (pc := 1) hG 1 rfl rfl dX5_leastWeight_1 ?_
  replace h := zbind h
  obtain ⟨v1, hv1, h⟩ := h
  refine z_cvI (pc := 2) (A' := 0) (B' := 0) hG [.int a1] [] zc_X5 DL_20 (tX5_leastSet hl0 a1 g hv1) zy_X5_leastSet ⟨w352, w353⟩ w360 dX5_leastWeight_2 rfl (Nat.le_of_ble_eq_true rfl) rfl rfl rfl (Nat.le_of_ble_eq_true rfl) rfl ?_
  refine z_istore_n (pc := 5) (ls' := [(2, .int v1), (0, .ref 20), (1, .int a1)]) hG [0, 1, 2] rfl (by decide) rfl dX5_leastWeight_5 ?_
  refine z_iload_n (pc := 6) hG 0 rfl rfl dX5_leastWeight_6 ?_
  refine z_iconst (pc := 7) hG kc_m1 dX5_leastWeight_7 ?_
  refine z_icmp_ne (pc := 8) (tgt := 15) hG dX5_leastWeight_8 rfl (fun hc => ?_) (fun hc => ?_)
  · replace h := zif_f hc h
    refine z_aload_n (pc := 15) hG 1 rfl rfl dX5_leastWeight_15 ?_
    refine z_getr (pc := 16) hG zc_X5 inX5 DL_20 0 rfl (by decide) rfl w619 dX5_leastWeight_16 ?_
    refine z_iload_n (pc := 19) hG 0 rfl rfl dX5_leastWeight_19 ?_
    replace h := zbind h
    obtain ⟨v2, hv2, h⟩ := h
    refine z_cvI (pc := 20) (A' := 0) (B' := 0) hG [.int v1] [] zc_X6 DL_3 (tX6_weightOf hl0 v1 g hv2) zy_X6_weightOf ⟨w362, w363⟩ w361 dX5_leastWeight_20 rfl (Nat.le_of_ble_eq_true rfl) rfl rfl rfl (Nat.le_of_ble_eq_true rfl) rfl ?_
    obtain rfl := Option.some.inj h
    exact z_iret (pc := 23) hG rfl rfl hk dX5_leastWeight_23
  · replace h := zif_t hc h
    refine z_iconst (pc := 11) hG kc_m1 dX5_leastWeight_11 ?_
    refine z_goto (pc := 12) (tgt := 23) hG dX5_leastWeight_12 rfl ?_
    obtain rfl := Option.some.inj h
    exact z_iret (pc := 23) hG rfl rfl hk dX5_leastWeight_23
noncomputable def wX5_countLeast_11 (a1 : Int32) (a2 : Int32) (g : zS) (s : (Int32 × Int32)) : Option ((Int32 × Int32) ⊕ Int32) :=
  (nX6_allFields g).bind fun v2 => if v2 < s.2 then (zex (some (s.1))) else ((nX6_weightOf s.2 g).bind fun v3 => if v3 = a2 then ((nX5_canMend a1 s.2 g).bind fun v4 => if v4 = 0 then (some (.inl (s.1, (s.2 + (1 : Int32))))) else (some (.inl ((s.1 + (1 : Int32)), (s.2 + (1 : Int32)))))) else (some (.inl (s.1, (s.2 + (1 : Int32))))))
noncomputable def nX5_countLeast (a1 : Int32) (g : zS) : Option Int32 :=
  (nX5_leastWeight a1 g).bind fun v1 => wh (wX5_countLeast_11 a1 v1 g) ((0 : Int32), (0 : Int32))
def qX5_countLeast_11 (x : zXx) (a1 : Int32) (a2 : Int32) (g : zS) (o : (Int32 × Int32) ⊕ Int32) : Prop := match o with
  | .inl s => zK x 5 11 [(0, .ref 20), (1, .int a1), (2, .int a2), (3, .int s.1), (4, .int s.2)] [] zD g 0 0
  | .inr r => ztg x = (.inl (some (.int r)), zD, g)
set_option maxHeartbeats 60000 in
theorem kwX5_countLeast_11 {x : zXx} (hG : zG x cX5_countLeast 5 RX5 ((Option.some Jvm.ClassFile.FieldType.int))) (hl0 : (zl0 x).flags = flags0) (a1 : Int32) (a2 : Int32) (g : zS) {o : Int32} (hk : ztg x = (.inl (some (.int o)), zD, g)) : ∀ s : (Int32 × Int32), wh (wX5_countLeast_11 a1 a2 g) s = some o → zK x 5 11 [(0, .ref 20), (1, .int a1), (2, .int a2), (3, .int s.1), (4, .int s.2)] [] zD g 0 0 := by
  refine wh_ind (fun s : (Int32 × Int32) => zK x 5 11 [(0, .ref 20), (1, .int a1), (2, .int a2), (3, .int s.1), (4, .int s.2)] [] zD g 0 0) (fun s o h hk2 => ?_)
  replace hk : qX5_countLeast_11 x a1 a2 g o := by
    cases o with
    | inl s => exact hk2
    | inr r => subst hk2; exact hk
  clear hk2
  unfold wX5_countLeast_11 at h
  refine z_iload (pc := 11) hG 4 rfl dX5_countLeast_11 ?_
  refine z_aload_n (pc := 13) hG 0 rfl rfl dX5_countLeast_13 ?_
  refine z_getr (pc := 14) hG zc_X5 inX5 DL_20 0 rfl (by decide) rfl w619 dX5_countLeast_14 ?_
  replace h := zbind h
  obtain ⟨v2, hv2, h⟩ := h
  refine z_cvI (pc := 17) (A' := 0) (B' := 0) hG [] [.int s.2] zc_X6 DL_3 (tX6_allFields hl0  g hv2) zy_X6_allFields ⟨w316, w317⟩ w355 dX5_countLeast_17 rfl (Nat.le_of_ble_eq_true rfl) rfl rfl rfl (Nat.le_of_ble_eq_true rfl) rfl ?_
  refine z_icmp_gt (pc := 20) (tgt := 55) hG dX5_countLeast_20 rfl (fun hc => ?_) (fun hc => ?_)
  · replace h := zif_t hc h
    replace h := zex_some h
    obtain ⟨o, h, rfl⟩ := h
    refine z_iload_n (pc := 55) hG 3 rfl rfl dX5_countLeast_55 ?_
    obtain rfl := Option.some.inj h
    exact z_iret (pc := 56) hG rfl rfl hk dX5_countLeast_56
  · replace h := zif_f hc h
    refine z_aload_n (pc := 23) hG 0 rfl rfl dX5_countLeast_23 ?_
    refine z_getr (pc := 24) hG zc_X5 inX5 DL_20 0 rfl (by decide) rfl w619 dX5_countLeast_24 ?_
    refine z_iload (pc := 27) hG 4 rfl dX5_countLeast_27 ?_
    replace h := zbind h
    obtain ⟨v3, hv3, h⟩ := h
    refine z_cvI (pc := 29) (A' := 0) (B' := 0) hG [.int s.2] [] zc_X6 DL_3 (tX6_weightOf hl0 s.2 g hv3) zy_X6_weightOf ⟨w362, w363⟩ w361 dX5_countLeast_29 rfl (Nat.le_of_ble_eq_true rfl) rfl rfl rfl (Nat.le_of_ble_eq_true rfl) rfl ?_
    refine z_iload_n (pc := 32) hG 2 rfl rfl dX5_countLeast_32 ?_
    refine z_icmp_ne (pc := 33) (tgt := 49) hG dX5_countLeast_33 rfl (fun hc => ?_) (fun hc => ?_)
    · replace h := zif_f hc h
      refine z_iinc (pc := 49) (ls' := [(4, .int (s.2 + (1 : Int32))), (0, .ref 20), (1, .int a1), (2, .int a2), (3, .int s.1)]) hG 4 rfl [0, 1, 2, 3, 4] (ki_1 _) (by decide) rfl dX5_countLeast_49 ?_
      refine z_goto (pc := 52) (tgt := 11) hG dX5_countLeast_52 rfl ?_
      obtain rfl := Option.some.inj h
      refine z_sub (ls' := [(0, .ref 20), (1, .int a1), (2, .int a2), (3, .int s.1), (4, .int (s.2 + (1 : Int32)))]) [1, 2, 3, 4, 0] rfl ?_
      exact hk
    · replace h := zif_t hc h
      refine z_aload_n (pc := 36) hG 0 rfl rfl dX5_countLeast_36 ?_
      refine z_iload_n (pc := 37) hG 1 rfl rfl dX5_countLeast_37 ?_
      refine z_iload (pc := 38) hG 4 rfl dX5_countLeast_38 ?_
      replace h := zbind h
      obtain ⟨v4, hv4, h⟩ := h
      refine z_cvI (pc := 40) (A' := 0) (B' := 0) hG [.int a1, .int s.2] [] zc_X5 DL_20 (tX5_canMend hl0 a1 s.2 g hv4) zy_X5_canMend ⟨w320, w321⟩ w335 dX5_countLeast_40 rfl (Nat.le_of_ble_eq_true rfl) rfl rfl rfl (Nat.le_of_ble_eq_true rfl) rfl ?_
      refine z_if_eq (pc := 43) (tgt := 49) hG dX5_countLeast_43 rfl (fun hc => ?_) (fun hc => ?_)
      · replace h := zif_t hc h
        refine z_iinc (pc := 49) (ls' := [(4, .int (s.2 + (1 : Int32))), (0, .ref 20), (1, .int a1), (2, .int a2), (3, .int s.1)]) hG 4 rfl [0, 1, 2, 3, 4] (ki_1 _) (by decide) rfl dX5_countLeast_49 ?_
        refine z_goto (pc := 52) (tgt := 11) hG dX5_countLeast_52 rfl ?_
        obtain rfl := Option.some.inj h
        refine z_sub (ls' := [(0, .ref 20), (1, .int a1), (2, .int a2), (3, .int s.1), (4, .int (s.2 + (1 : Int32)))]) [1, 2, 3, 4, 0] rfl ?_
        exact hk
      · replace h := zif_f hc h
        refine z_iinc (pc := 46) (ls' := [(3, .int (s.1 + (1 : Int32))), (0, .ref 20), (1, .int a1), (2, .int a2), (4, .int s.2)]) hG 3 rfl [0, 1, 2, 3, 4] (ki_1 _) (by decide) rfl dX5_countLeast_46 ?_
        refine z_iinc (pc := 49) (ls' := [(4, .int (s.2 + (1 : Int32))), (3, .int (s.1 + (1 : Int32))), (0, .ref 20), (1, .int a1), (2, .int a2)]) hG 4 rfl [0, 1, 2, 3, 4] (ki_1 _) (by decide) rfl dX5_countLeast_49 ?_
        refine z_goto (pc := 52) (tgt := 11) hG dX5_countLeast_52 rfl ?_
        obtain rfl := Option.some.inj h
        refine z_sub (ls' := [(0, .ref 20), (1, .int a1), (2, .int a2), (3, .int (s.1 + (1 : Int32))), (4, .int (s.2 + (1 : Int32)))]) [2, 3, 4, 1, 0] rfl ?_
        exact hk
set_option maxHeartbeats 60000 in
theorem tX5_countLeast {l : Launch} (hl0 : l.flags = flags0) (a1 : Int32) (g : zS) {r : Int32} (h : nX5_countLeast a1 g = some r) : zC l yX5_countLeast cX5_countLeast 5 ((Option.some Jvm.ClassFile.FieldType.int)) 5 0 0 [.ref 20, .int a1] zD g (.inl (some (.int r)), zD, g) := by
  refine zC_of hl0 rfl (Nat.le_of_ble_eq_true rfl) (fun x hG hxl hk _ => ?_)
  subst hxl
  show zK x 5 0 [(0, .ref 20), (1, .int a1)] [] zD g 0 0
  unfold nX5_countLeast at h
  refine z_aload_n (pc := 0) hG 0 rfl rfl dX5_countLeast_0 ?_
  refine z_iload_n (pc := 1) hG 1 rfl rfl dX5_countLeast_1 ?_
  replace h := zbind h
  obtain ⟨v1, hv1, h⟩ := h
  refine z_cvI (pc := 2) (A' := 0) (B' := 0) hG [.int a1] [] zc_X5 DL_20 (tX5_leastWeight hl0 a1 g hv1) zy_X5_leastWeight ⟨w357, w358⟩ w369 dX5_countLeast_2 rfl (Nat.le_of_ble_eq_true rfl) rfl rfl rfl (Nat.le_of_ble_eq_true rfl) rfl ?_
  refine z_istore_n (pc := 5) (ls' := [(2, .int v1), (0, .ref 20), (1, .int a1)]) hG [0, 1, 2] rfl (by decide) rfl dX5_countLeast_5 ?_
  refine z_iconst (pc := 6) hG kc_0 dX5_countLeast_6 ?_
  refine z_istore_n (pc := 7) (ls' := [(3, .int (0 : Int32)), (2, .int v1), (0, .ref 20), (1, .int a1)]) hG [0, 1, 2, 3] rfl (by decide) rfl dX5_countLeast_7 ?_
  refine z_iconst (pc := 8) hG kc_0 dX5_countLeast_8 ?_
  refine z_istore (pc := 9) (ls' := [(4, .int (0 : Int32)), (3, .int (0 : Int32)), (2, .int v1), (0, .ref 20), (1, .int a1)]) hG [0, 1, 2, 3, 4] (by decide) rfl dX5_countLeast_9 ?_
  refine z_sub (ls' := [(0, .ref 20), (1, .int a1), (2, .int v1), (3, .int (0 : Int32)), (4, .int (0 : Int32))]) [3, 4, 2, 1, 0] rfl ?_
  exact kwX5_countLeast_11 hG hl0 a1 v1 g hk ((0 : Int32), (0 : Int32)) h
noncomputable def wX5_leastAt_12 (a1 : Int32) (a2 : Int32) (a3 : Int32) (g : zS) (s : (Int32 × Int32)) : Option ((Int32 × Int32) ⊕ Int32) :=
  (nX6_allFields g).bind fun v2 => if v2 < s.2 then (zex (some ((-1 : Int32)))) else ((nX6_weightOf s.2 g).bind fun v3 => if v3 = a3 then ((nX5_canMend a1 s.2 g).bind fun v4 => if v4 = 0 then (some (.inl (s.1, (s.2 + (1 : Int32))))) else (if s.1 = a2 then (zex (some (s.2))) else (some (.inl ((s.1 + (1 : Int32)), (s.2 + (1 : Int32))))))) else (some (.inl (s.1, (s.2 + (1 : Int32))))))
noncomputable def nX5_leastAt (a1 : Int32) (a2 : Int32) (g : zS) : Option Int32 :=
  (nX5_leastWeight a1 g).bind fun v1 => wh (wX5_leastAt_12 a1 a2 v1 g) ((0 : Int32), (0 : Int32))
def qX5_leastAt_12 (x : zXx) (a1 : Int32) (a2 : Int32) (a3 : Int32) (g : zS) (o : (Int32 × Int32) ⊕ Int32) : Prop := match o with
  | .inl s => zK x 5 12 [(0, .ref 20), (1, .int a1), (2, .int a2), (3, .int a3), (4, .int s.1), (5, .int s.2)] [] zD g 0 0
  | .inr r => ztg x = (.inl (some (.int r)), zD, g)
set_option maxHeartbeats 60000 in
theorem kwX5_leastAt_12 {x : zXx} (hG : zG x cX5_leastAt 6 RX5 ((Option.some Jvm.ClassFile.FieldType.int))) (hl0 : (zl0 x).flags = flags0) (a1 : Int32) (a2 : Int32) (a3 : Int32) (g : zS) {o : Int32} (hk : ztg x = (.inl (some (.int o)), zD, g)) : ∀ s : (Int32 × Int32), wh (wX5_leastAt_12 a1 a2 a3 g) s = some o → zK x 5 12 [(0, .ref 20), (1, .int a1), (2, .int a2), (3, .int a3), (4, .int s.1), (5, .int s.2)] [] zD g 0 0 := by
  refine wh_ind (fun s : (Int32 × Int32) => zK x 5 12 [(0, .ref 20), (1, .int a1), (2, .int a2), (3, .int a3), (4, .int s.1), (5, .int s.2)] [] zD g 0 0) (fun s o h hk2 => ?_)
  replace hk : qX5_leastAt_12 x a1 a2 a3 g o := by
    cases o with
    | inl s => exact hk2
    | inr r => subst hk2; exact hk
  clear hk2
  unfold wX5_leastAt_12 at h
  refine z_iload (pc := 12) hG 5 rfl dX5_leastAt_12 ?_
  refine z_aload_n (pc := 14) hG 0 rfl rfl dX5_leastAt_14 ?_
  refine z_getr (pc := 15) hG zc_X5 inX5 DL_20 0 rfl (by decide) rfl w619 dX5_leastAt_15 ?_
  replace h := zbind h
  obtain ⟨v2, hv2, h⟩ := h
  refine z_cvI (pc := 18) (A' := 0) (B' := 0) hG [] [.int s.2] zc_X6 DL_3 (tX6_allFields hl0  g hv2) zy_X6_allFields ⟨w316, w317⟩ w355 dX5_leastAt_18 rfl (Nat.le_of_ble_eq_true rfl) rfl rfl rfl (Nat.le_of_ble_eq_true rfl) rfl ?_
  refine z_icmp_gt (pc := 21) (tgt := 65) hG dX5_leastAt_21 rfl (fun hc => ?_) (fun hc => ?_)
  · replace h := zif_t hc h
    replace h := zex_some h
    obtain ⟨o, h, rfl⟩ := h
    refine z_iconst (pc := 65) hG kc_m1 dX5_leastAt_65 ?_
    obtain rfl := Option.some.inj h
    exact z_iret (pc := 66) hG rfl rfl hk dX5_leastAt_66
  · replace h := zif_f hc h
    refine z_aload_n (pc := 24) hG 0 rfl rfl dX5_leastAt_24 ?_
    refine z_getr (pc := 25) hG zc_X5 inX5 DL_20 0 rfl (by decide) rfl w619 dX5_leastAt_25 ?_
    refine z_iload (pc := 28) hG 5 rfl dX5_leastAt_28 ?_
    replace h := zbind h
    obtain ⟨v3, hv3, h⟩ := h
    refine z_cvI (pc := 30) (A' := 0) (B' := 0) hG [.int s.2] [] zc_X6 DL_3 (tX6_weightOf hl0 s.2 g hv3) zy_X6_weightOf ⟨w362, w363⟩ w361 dX5_leastAt_30 rfl (Nat.le_of_ble_eq_true rfl) rfl rfl rfl (Nat.le_of_ble_eq_true rfl) rfl ?_
    refine z_iload_n (pc := 33) hG 3 rfl rfl dX5_leastAt_33 ?_
    refine z_icmp_ne (pc := 34) (tgt := 59) hG dX5_leastAt_34 rfl (fun hc => ?_) (fun hc => ?_)
    · replace h := zif_f hc h
      refine z_iinc (pc := 59) (ls' := [(5, .int (s.2 + (1 : Int32))), (0, .ref 20), (1, .int a1), (2, .int a2), (3, .int a3), (4, .int s.1)]) hG 5 rfl [0, 1, 2, 3, 4, 5] (ki_1 _) (by decide) rfl dX5_leastAt_59 ?_
      refine z_goto (pc := 62) (tgt := 12) hG dX5_leastAt_62 rfl ?_
      obtain rfl := Option.some.inj h
      refine z_sub (ls' := [(0, .ref 20), (1, .int a1), (2, .int a2), (3, .int a3), (4, .int s.1), (5, .int (s.2 + (1 : Int32)))]) [1, 2, 3, 4, 5, 0] rfl ?_
      exact hk
    · replace h := zif_t hc h
      refine z_aload_n (pc := 37) hG 0 rfl rfl dX5_leastAt_37 ?_
      refine z_iload_n (pc := 38) hG 1 rfl rfl dX5_leastAt_38 ?_
      refine z_iload (pc := 39) hG 5 rfl dX5_leastAt_39 ?_
      replace h := zbind h
      obtain ⟨v4, hv4, h⟩ := h
      refine z_cvI (pc := 41) (A' := 0) (B' := 0) hG [.int a1, .int s.2] [] zc_X5 DL_20 (tX5_canMend hl0 a1 s.2 g hv4) zy_X5_canMend ⟨w320, w321⟩ w335 dX5_leastAt_41 rfl (Nat.le_of_ble_eq_true rfl) rfl rfl rfl (Nat.le_of_ble_eq_true rfl) rfl ?_
      refine z_if_eq (pc := 44) (tgt := 59) hG dX5_leastAt_44 rfl (fun hc => ?_) (fun hc => ?_)
      · replace h := zif_t hc h
        refine z_iinc (pc := 59) (ls' := [(5, .int (s.2 + (1 : Int32))), (0, .ref 20), (1, .int a1), (2, .int a2), (3, .int a3), (4, .int s.1)]) hG 5 rfl [0, 1, 2, 3, 4, 5] (ki_1 _) (by decide) rfl dX5_leastAt_59 ?_
        refine z_goto (pc := 62) (tgt := 12) hG dX5_leastAt_62 rfl ?_
        obtain rfl := Option.some.inj h
        refine z_sub (ls' := [(0, .ref 20), (1, .int a1), (2, .int a2), (3, .int a3), (4, .int s.1), (5, .int (s.2 + (1 : Int32)))]) [1, 2, 3, 4, 5, 0] rfl ?_
        exact hk
      · replace h := zif_f hc h
        refine z_iload (pc := 47) hG 4 rfl dX5_leastAt_47 ?_
        refine z_iload_n (pc := 49) hG 2 rfl rfl dX5_leastAt_49 ?_
        refine z_icmp_ne (pc := 50) (tgt := 56) hG dX5_leastAt_50 rfl (fun hc => ?_) (fun hc => ?_)
        · replace h := zif_f hc h
          refine z_iinc (pc := 56) (ls' := [(4, .int (s.1 + (1 : Int32))), (0, .ref 20), (1, .int a1), (2, .int a2), (3, .int a3), (5, .int s.2)]) hG 4 rfl [0, 1, 2, 3, 4, 5] (ki_1 _) (by decide) rfl dX5_leastAt_56 ?_
          refine z_iinc (pc := 59) (ls' := [(5, .int (s.2 + (1 : Int32))), (4, .int (s.1 + (1 : Int32))), (0, .ref 20), (1, .int a1), (2, .int a2), (3, .int a3)]) hG 5 rfl [0, 1, 2, 3, 4, 5] (ki_1 _) (by decide) rfl dX5_leastAt_59 ?_
          refine z_goto (pc := 62) (tgt := 12) hG dX5_leastAt_62 rfl ?_
          obtain rfl := Option.some.inj h
          refine z_sub (ls' := [(0, .ref 20), (1, .int a1), (2, .int a2), (3, .int a3), (4, .int (s.1 + (1 : Int32))), (5, .int (s.2 + (1 : Int32)))]) [2, 3, 4, 5, 1, 0] rfl ?_
          exact hk
        · replace h := zif_t hc h
          replace h := zex_some h
          obtain ⟨o, h, rfl⟩ := h
          refine z_iload (pc := 53) hG 5 rfl dX5_leastAt_53 ?_
          obtain rfl := Option.some.inj h
          exact z_iret (pc := 55) hG rfl rfl hk dX5_leastAt_55
set_option maxHeartbeats 60000 in
theorem tX5_leastAt {l : Launch} (hl0 : l.flags = flags0) (a1 : Int32) (a2 : Int32) (g : zS) {r : Int32} (h : nX5_leastAt a1 a2 g = some r) : zC l yX5_leastAt cX5_leastAt 6 ((Option.some Jvm.ClassFile.FieldType.int)) 5 0 0 [.ref 20, .int a1, .int a2] zD g (.inl (some (.int r)), zD, g) := by
  refine zC_of hl0 rfl (Nat.le_of_ble_eq_true rfl) (fun x hG hxl hk _ => ?_)
  subst hxl
  show zK x 5 0 [(0, .ref 20), (1, .int a1), (2, .int a2)] [] zD g 0 0
  unfold nX5_leastAt at h
  refine z_aload_n (pc := 0) hG 0 rfl rfl dX5_leastAt_0 ?_
  refine z_iload_n (pc := 1) hG 1 rfl rfl dX5_leastAt_1 ?_
  replace h := zbind h
  obtain ⟨v1, hv1, h⟩ := h
  refine z_cvI (pc := 2) (A' := 0) (B' := 0) hG [.int a1] [] zc_X5 DL_20 (tX5_leastWeight hl0 a1 g hv1) zy_X5_leastWeight ⟨w357, w358⟩ w369 dX5_leastAt_2 rfl (Nat.le_of_ble_eq_true rfl) rfl rfl rfl (Nat.le_of_ble_eq_true rfl) rfl ?_
  refine z_istore_n (pc := 5) (ls' := [(3, .int v1), (0, .ref 20), (1, .int a1), (2, .int a2)]) hG [0, 1, 2, 3] rfl (by decide) rfl dX5_leastAt_5 ?_
  refine z_iconst (pc := 6) hG kc_0 dX5_leastAt_6 ?_
  refine z_istore (pc := 7) (ls' := [(4, .int (0 : Int32)), (3, .int v1), (0, .ref 20), (1, .int a1), (2, .int a2)]) hG [0, 1, 2, 3, 4] (by decide) rfl dX5_leastAt_7 ?_
  refine z_iconst (pc := 9) hG kc_0 dX5_leastAt_9 ?_
  refine z_istore (pc := 10) (ls' := [(5, .int (0 : Int32)), (4, .int (0 : Int32)), (3, .int v1), (0, .ref 20), (1, .int a1), (2, .int a2)]) hG [0, 1, 2, 3, 4, 5] (by decide) rfl dX5_leastAt_10 ?_
  refine z_sub (ls' := [(0, .ref 20), (1, .int a1), (2, .int a2), (3, .int v1), (4, .int (0 : Int32)), (5, .int (0 : Int32))]) [3, 4, 5, 2, 1, 0] rfl ?_
  exact kwX5_leastAt_12 hG hl0 a1 a2 v1 g hk ((0 : Int32), (0 : Int32)) h
noncomputable def wX5_curingValues_6 (a1 : Int32) (a2 : Int32) (a3 : Int32) (g : zS) (s : (Int32 × Int32)) : Option ((Int32 × Int32) ⊕ Int32) :=
  zchk (zin a3 5) (if (g.1 4 a3.toNatClampNeg) ≤ s.2 then (zex (some (s.1))) else (zchk (zin (a2 &&& (((1 : Int32) <<< (a3 &&& 31)) ^^^ (-1 : Int32))) 32) ((nX5_editsOfAnswer a3 s.2 g).bind fun v1 => (nX3_has (g.2.1 23 (a2 &&& (((1 : Int32) <<< (a3 &&& 31)) ^^^ (-1 : Int32))).toNatClampNeg) (a1 &&& v1)).bind fun v2 => if v2 = 0 then (some (.inl (s.1, (s.2 + (1 : Int32))))) else (some (.inl ((s.1 ||| ((1 : Int32) <<< (s.2 &&& 31))), (s.2 + (1 : Int32))))))))
noncomputable def nX5_curingValues (a1 : Int32) (a2 : Int32) (a3 : Int32) (g : zS) : Option Int32 :=
  wh (wX5_curingValues_6 a1 a2 a3 g) ((0 : Int32), (0 : Int32))
def qX5_curingValues_6 (x : zXx) (a1 : Int32) (a2 : Int32) (a3 : Int32) (g : zS) (o : (Int32 × Int32) ⊕ Int32) : Prop := match o with
  | .inl s => zK x 1 6 [(0, .ref 20), (1, .int a1), (2, .int a2), (3, .int a3), (4, .int s.1), (5, .int s.2)] [] zD g 0 0
  | .inr r => ztg x = (.inl (some (.int r)), zD, g)
set_option maxHeartbeats 60000 in
theorem kwX5_curingValues_6 {x : zXx} (hG : zG x cX5_curingValues 6 RX5 ((Option.some Jvm.ClassFile.FieldType.int))) (hl0 : (zl0 x).flags = flags0) (a1 : Int32) (a2 : Int32) (a3 : Int32) (g : zS) {o : Int32} (hk : ztg x = (.inl (some (.int o)), zD, g)) : ∀ s : (Int32 × Int32), wh (wX5_curingValues_6 a1 a2 a3 g) s = some o → zK x 1 6 [(0, .ref 20), (1, .int a1), (2, .int a2), (3, .int a3), (4, .int s.1), (5, .int s.2)] [] zD g 0 0 := by
  refine wh_ind (fun s : (Int32 × Int32) => zK x 1 6 [(0, .ref 20), (1, .int a1), (2, .int a2), (3, .int a3), (4, .int s.1), (5, .int s.2)] [] zD g 0 0) (fun s o h hk2 => ?_)
  replace hk : qX5_curingValues_6 x a1 a2 a3 g o := by
    cases o with
    | inl s => exact hk2
    | inr r => subst hk2; exact hk
  clear hk2
  unfold wX5_curingValues_6 at h
  refine z_iload (pc := 6) hG 5 rfl dX5_curingValues_6 ?_
  refine z_aload_n (pc := 8) hG 0 rfl rfl dX5_curingValues_8 ?_
  refine z_getr (pc := 9) hG zc_X5 inX5 DL_20 0 rfl (by decide) rfl w619 dX5_curingValues_9 ?_
  refine z_getr (pc := 12) hG zc_X6 inX6 DL_3 1 rfl (by decide) rfl w539 dX5_curingValues_12 ?_
  refine z_iload_n (pc := 15) hG 3 rfl rfl dX5_curingValues_15 ?_
  replace h := zchk_some h
  obtain ⟨hc, h⟩ := h
  refine z_iald (pc := 16) hG DL_4 (zin_in hc) dX5_curingValues_16 ?_
  refine z_icmp_ge (pc := 17) (tgt := 62) hG dX5_curingValues_17 rfl (fun hc => ?_) (fun hc => ?_)
  · replace h := zif_t hc h
    replace h := zex_some h
    obtain ⟨o, h, rfl⟩ := h
    refine z_iload (pc := 62) hG 4 rfl dX5_curingValues_62 ?_
    obtain rfl := Option.some.inj h
    exact z_iret (pc := 64) hG rfl rfl hk dX5_curingValues_64
  · replace h := zif_f hc h
    refine z_aload_n (pc := 20) hG 0 rfl rfl dX5_curingValues_20 ?_
    refine z_getr (pc := 21) hG zc_X5 inX5 DL_20 3 rfl (by decide) rfl w622 dX5_curingValues_21 ?_
    refine z_iload_n (pc := 24) hG 2 rfl rfl dX5_curingValues_24 ?_
    refine z_iconst (pc := 25) hG kc_1 dX5_curingValues_25 ?_
    refine z_iload_n (pc := 26) hG 3 rfl rfl dX5_curingValues_26 ?_
    refine z_ishl (pc := 27) hG dX5_curingValues_27 ?_
    refine z_iconst (pc := 28) hG kc_m1 dX5_curingValues_28 ?_
    refine z_ixor (pc := 29) hG dX5_curingValues_29 ?_
    refine z_iand (pc := 30) hG dX5_curingValues_30 ?_
    replace h := zchk_some h
    obtain ⟨hc, h⟩ := h
    refine z_lald (pc := 31) hG DL_23 (zin_in hc) dX5_curingValues_31 ?_
    refine z_iload_n (pc := 32) hG 1 rfl rfl dX5_curingValues_32 ?_
    refine z_aload_n (pc := 33) hG 0 rfl rfl dX5_curingValues_33 ?_
    refine z_iload_n (pc := 34) hG 3 rfl rfl dX5_curingValues_34 ?_
    refine z_iload (pc := 35) hG 5 rfl dX5_curingValues_35 ?_
    replace h := zbind h
    obtain ⟨v1, hv1, h⟩ := h
    refine z_cvI (pc := 37) (A' := 0) (B' := 0) hG [.int a3, .int s.2] [.int a1, .long (g.2.1 23 (a2 &&& (((1 : Int32) <<< (a3 &&& 31)) ^^^ (-1 : Int32))).toNatClampNeg)] zc_X5 DL_20 (tX5_editsOfAnswer hl0 a3 s.2 g hv1) zy_X5_editsOfAnswer ⟨w145, w146⟩ w162 dX5_curingValues_37 rfl (Nat.le_of_ble_eq_true rfl) rfl rfl rfl (Nat.le_of_ble_eq_true rfl) rfl ?_
    refine z_iand (pc := 40) hG dX5_curingValues_40 ?_
    replace h := zbind h
    obtain ⟨v2, hv2, h⟩ := h
    refine z_csI (pc := 41) (A' := 0) (B' := 0) hG [.long (g.2.1 23 (a2 &&& (((1 : Int32) <<< (a3 &&& 31)) ^^^ (-1 : Int32))).toNatClampNeg), .int (a1 &&& v1)] [] (tX3_has hl0 (g.2.1 23 (a2 &&& (((1 : Int32) <<< (a3 &&& 31)) ^^^ (-1 : Int32))).toNatClampNeg) (a1 &&& v1) g hv2) zy_X3_has w325 w324 dX5_curingValues_41 rfl (Nat.le_of_ble_eq_true rfl) rfl rfl rfl (Nat.le_of_ble_eq_true rfl) rfl ?_
    refine z_if_eq (pc := 44) (tgt := 56) hG dX5_curingValues_44 rfl (fun hc => ?_) (fun hc => ?_)
    · replace h := zif_t hc h
      refine z_iinc (pc := 56) (ls' := [(5, .int (s.2 + (1 : Int32))), (0, .ref 20), (1, .int a1), (2, .int a2), (3, .int a3), (4, .int s.1)]) hG 5 rfl [0, 1, 2, 3, 4, 5] (ki_1 _) (by decide) rfl dX5_curingValues_56 ?_
      refine z_goto (pc := 59) (tgt := 6) hG dX5_curingValues_59 rfl ?_
      obtain rfl := Option.some.inj h
      refine z_sub (ls' := [(0, .ref 20), (1, .int a1), (2, .int a2), (3, .int a3), (4, .int s.1), (5, .int (s.2 + (1 : Int32)))]) [1, 2, 3, 4, 5, 0] rfl ?_
      exact hk
    · replace h := zif_f hc h
      refine z_iload (pc := 47) hG 4 rfl dX5_curingValues_47 ?_
      refine z_iconst (pc := 49) hG kc_1 dX5_curingValues_49 ?_
      refine z_iload (pc := 50) hG 5 rfl dX5_curingValues_50 ?_
      refine z_ishl (pc := 52) hG dX5_curingValues_52 ?_
      refine z_ior (pc := 53) hG dX5_curingValues_53 ?_
      refine z_istore (pc := 54) (ls' := [(4, .int (s.1 ||| ((1 : Int32) <<< (s.2 &&& 31)))), (0, .ref 20), (1, .int a1), (2, .int a2), (3, .int a3), (5, .int s.2)]) hG [0, 1, 2, 3, 4, 5] (by decide) rfl dX5_curingValues_54 ?_
      refine z_iinc (pc := 56) (ls' := [(5, .int (s.2 + (1 : Int32))), (4, .int (s.1 ||| ((1 : Int32) <<< (s.2 &&& 31)))), (0, .ref 20), (1, .int a1), (2, .int a2), (3, .int a3)]) hG 5 rfl [0, 1, 2, 3, 4, 5] (ki_1 _) (by decide) rfl dX5_curingValues_56 ?_
      refine z_goto (pc := 59) (tgt := 6) hG dX5_curingValues_59 rfl ?_
      obtain rfl := Option.some.inj h
      refine z_sub (ls' := [(0, .ref 20), (1, .int a1), (2, .int a2), (3, .int a3), (4, .int (s.1 ||| ((1 : Int32) <<< (s.2 &&& 31)))), (5, .int (s.2 + (1 : Int32)))]) [2, 3, 4, 5, 1, 0] rfl ?_
      exact hk
set_option maxHeartbeats 60000 in
theorem tX5_curingValues {l : Launch} (hl0 : l.flags = flags0) (a1 : Int32) (a2 : Int32) (a3 : Int32) (g : zS) {r : Int32} (h : nX5_curingValues a1 a2 a3 g = some r) : zC l yX5_curingValues cX5_curingValues 6 ((Option.some Jvm.ClassFile.FieldType.int)) 1 0 0 [.ref 20, .int a1, .int a2, .int a3] zD g (.inl (some (.int r)), zD, g) := by
  refine zC_of hl0 rfl (Nat.le_of_ble_eq_true rfl) (fun x hG hxl hk _ => ?_)
  subst hxl
  show zK x 1 0 [(0, .ref 20), (1, .int a1), (2, .int a2), (3, .int a3)] [] zD g 0 0
  unfold nX5_curingValues at h
  refine z_iconst (pc := 0) hG kc_0 dX5_curingValues_0 ?_
  refine z_istore (pc := 1) (ls' := [(4, .int (0 : Int32)), (0, .ref 20), (1, .int a1), (2, .int a2), (3, .int a3)]) hG [0, 1, 2, 3, 4] (by decide) rfl dX5_curingValues_1 ?_
  refine z_iconst (pc := 3) hG kc_0 dX5_curingValues_3 ?_
  refine z_istore (pc := 4) (ls' := [(5, .int (0 : Int32)), (4, .int (0 : Int32)), (0, .ref 20), (1, .int a1), (2, .int a2), (3, .int a3)]) hG [0, 1, 2, 3, 4, 5] (by decide) rfl dX5_curingValues_4 ?_
  refine z_sub (ls' := [(0, .ref 20), (1, .int a1), (2, .int a2), (3, .int a3), (4, .int (0 : Int32)), (5, .int (0 : Int32))]) [2, 3, 4, 5, 1, 0] rfl ?_
  exact kwX5_curingValues_6 hG hl0 a1 a2 a3 g hk ((0 : Int32), (0 : Int32)) h
noncomputable def nX5_valuesIn (a1 : Int32) (a2 : Int32) (a3 : Int32) (g : zS) : Option Int32 :=
  (nX5_canMend a1 a2 g).bind fun v1 => if v1 = 0 then (some ((0 : Int32))) else (if ((a2 >>> (a3 &&& 31)) &&& (1 : Int32)) = 0 then ((nX1_answerAt a1 a3).bind fun v4 => some (((1 : Int32) <<< (v4 &&& 31)))) else ((nX5_editsLeft a1 a2 g).bind fun v2 => (nX5_curingValues v2 a2 a3 g).bind fun v3 => some (v3)))
set_option maxHeartbeats 60000 in
theorem tX5_valuesIn {l : Launch} (hl0 : l.flags = flags0) (a1 : Int32) (a2 : Int32) (a3 : Int32) (g : zS) {r : Int32} (h : nX5_valuesIn a1 a2 a3 g = some r) : zC l yX5_valuesIn cX5_valuesIn 4 ((Option.some Jvm.ClassFile.FieldType.int)) 3 0 0 [.ref 20, .int a1, .int a2, .int a3] zD g (.inl (some (.int r)), zD, g) := by
  refine zC_of hl0 rfl (Nat.le_of_ble_eq_true rfl) (fun x hG hxl hk _ => ?_)
  subst hxl
  show zK x 3 0 [(0, .ref 20), (1, .int a1), (2, .int a2), (3, .int a3)] [] zD g 0 0
  unfold nX5_valuesIn at h
  refine z_aload_n (pc := 0) hG 0 rfl rfl dX5_valuesIn_0 ?_
  refine z_iload_n (pc := 1) hG 1 rfl rfl dX5_valuesIn_1 ?_
  refine z_iload_n (pc := 2) hG 2 rfl rfl dX5_valuesIn_2 ?_
  replace h := zbind h
  obtain ⟨v1, hv1, h⟩ := h
  refine z_cvI (pc := 3) (A' := 0) (B' := 0) hG [.int a1, .int a2] [] zc_X5 DL_20 (tX5_canMend hl0 a1 a2 g hv1) zy_X5_canMend ⟨w320, w321⟩ w335 dX5_valuesIn_3 rfl (Nat.le_of_ble_eq_true rfl) rfl rfl rfl (Nat.le_of_ble_eq_true rfl) rfl ?_
  refine z_if_ne (pc := 6) (tgt := 11) hG dX5_valuesIn_6 rfl (fun hc => ?_) (fun hc => ?_)
  · replace h := zif_f hc h
    refine z_iload_n (pc := 11) hG 2 rfl rfl dX5_valuesIn_11 ?_
    refine z_iload_n (pc := 12) hG 3 rfl rfl dX5_valuesIn_12 ?_
    refine z_ishr (pc := 13) hG dX5_valuesIn_13 ?_
    refine z_iconst (pc := 14) hG kc_1 dX5_valuesIn_14 ?_
    refine z_iand (pc := 15) hG dX5_valuesIn_15 ?_
    refine z_if_ne (pc := 16) (tgt := 27) hG dX5_valuesIn_16 rfl (fun hc => ?_) (fun hc => ?_)
    · replace h := zif_f hc h
      refine z_aload_n (pc := 27) hG 0 rfl rfl dX5_valuesIn_27 ?_
      refine z_aload_n (pc := 28) hG 0 rfl rfl dX5_valuesIn_28 ?_
      refine z_iload_n (pc := 29) hG 1 rfl rfl dX5_valuesIn_29 ?_
      refine z_iload_n (pc := 30) hG 2 rfl rfl dX5_valuesIn_30 ?_
      replace h := zbind h
      obtain ⟨v2, hv2, h⟩ := h
      refine z_cvI (pc := 31) (A' := 0) (B' := 0) hG [.int a1, .int a2] [.ref 20] zc_X5 DL_20 (tX5_editsLeft hl0 a1 a2 g hv2) zy_X5_editsLeft ⟨w251, wp10⟩ w249 dX5_valuesIn_31 rfl (Nat.le_of_ble_eq_true rfl) rfl rfl rfl (Nat.le_of_ble_eq_true rfl) rfl ?_
      refine z_iload_n (pc := 34) hG 2 rfl rfl dX5_valuesIn_34 ?_
      refine z_iload_n (pc := 35) hG 3 rfl rfl dX5_valuesIn_35 ?_
      replace h := zbind h
      obtain ⟨v3, hv3, h⟩ := h
      refine z_cvI (pc := 36) (A' := 0) (B' := 0) hG [.int v2, .int a2, .int a3] [] zc_X5 DL_20 (tX5_curingValues hl0 v2 a2 a3 g hv3) zy_X5_curingValues ⟨w388, wp17⟩ w386 dX5_valuesIn_36 rfl (Nat.le_of_ble_eq_true rfl) rfl rfl rfl (Nat.le_of_ble_eq_true rfl) rfl ?_
      obtain rfl := Option.some.inj h
      exact z_iret (pc := 39) hG rfl rfl hk dX5_valuesIn_39
    · replace h := zif_t hc h
      refine z_iconst (pc := 19) hG kc_1 dX5_valuesIn_19 ?_
      refine z_iload_n (pc := 20) hG 1 rfl rfl dX5_valuesIn_20 ?_
      refine z_iload_n (pc := 21) hG 3 rfl rfl dX5_valuesIn_21 ?_
      replace h := zbind h
      obtain ⟨v4, hv4, h⟩ := h
      refine z_csI (pc := 22) (A' := 0) (B' := 0) hG [.int a1, .int a3] [.int (1 : Int32)] (tX1_answerAt hl0 a1 a3 g hv4) zy_X1_answerAt w228 w258 dX5_valuesIn_22 rfl (Nat.le_of_ble_eq_true rfl) rfl rfl rfl (Nat.le_of_ble_eq_true rfl) rfl ?_
      refine z_ishl (pc := 25) hG dX5_valuesIn_25 ?_
      obtain rfl := Option.some.inj h
      exact z_iret (pc := 26) hG rfl rfl hk dX5_valuesIn_26
  · replace h := zif_t hc h
    refine z_iconst (pc := 9) hG kc_0 dX5_valuesIn_9 ?_
    obtain rfl := Option.some.inj h
    exact z_iret (pc := 10) hG rfl rfl hk dX5_valuesIn_10
noncomputable def wX5_forcedIn_11 (a1 : Int32) (a2 : Int32) (g : zS) (s : (Int32 × Int32)) : Option ((Int32 × Int32) ⊕ Int32) :=
  if (g.1 3 0) ≤ s.2 then (zex (some (s.1))) else (if a2 = (-1 : Int32) then (zex (some (s.1))) else (if ((a2 >>> (s.2 &&& 31)) &&& (1 : Int32)) = 0 then (some (.inl (s.1, (s.2 + (1 : Int32))))) else ((nX5_valuesIn a1 a2 s.2 g).bind fun v2 => (nJ6_bitCount_0f7a4 v2).bind fun v3 => if v3 = (1 : Int32) then (some (.inl ((s.1 ||| ((1 : Int32) <<< (s.2 &&& 31))), (s.2 + (1 : Int32))))) else (some (.inl (s.1, (s.2 + (1 : Int32))))))))
noncomputable def nX5_forcedIn (a1 : Int32) (g : zS) : Option Int32 :=
  (nX5_leastSet a1 g).bind fun v1 => wh (wX5_forcedIn_11 a1 v1 g) ((0 : Int32), (0 : Int32))
def qX5_forcedIn_11 (x : zXx) (a1 : Int32) (a2 : Int32) (g : zS) (o : (Int32 × Int32) ⊕ Int32) : Prop := match o with
  | .inl s => zK x 4 11 [(0, .ref 20), (1, .int a1), (2, .int a2), (3, .int s.1), (4, .int s.2)] [] zD g 0 0
  | .inr r => ztg x = (.inl (some (.int r)), zD, g)
set_option maxHeartbeats 60000 in
theorem kwX5_forcedIn_11 {x : zXx} (hG : zG x cX5_forcedIn 5 RX5 ((Option.some Jvm.ClassFile.FieldType.int))) (hl0 : (zl0 x).flags = flags0) (a1 : Int32) (a2 : Int32) (g : zS) {o : Int32} (hk : ztg x = (.inl (some (.int o)), zD, g)) : ∀ s : (Int32 × Int32), wh (wX5_forcedIn_11 a1 a2 g) s = some o → zK x 4 11 [(0, .ref 20), (1, .int a1), (2, .int a2), (3, .int s.1), (4, .int s.2)] [] zD g 0 0 := by
  refine wh_ind (fun s : (Int32 × Int32) => zK x 4 11 [(0, .ref 20), (1, .int a1), (2, .int a2), (3, .int s.1), (4, .int s.2)] [] zD g 0 0) (fun s o h hk2 => ?_)
  replace hk : qX5_forcedIn_11 x a1 a2 g o := by
    cases o with
    | inl s => exact hk2
    | inr r => subst hk2; exact hk
  clear hk2
  unfold wX5_forcedIn_11 at h
  refine z_iload (pc := 11) hG 4 rfl dX5_forcedIn_11 ?_
  refine z_aload_n (pc := 13) hG 0 rfl rfl dX5_forcedIn_13 ?_
  refine z_getr (pc := 14) hG zc_X5 inX5 DL_20 0 rfl (by decide) rfl w619 dX5_forcedIn_14 ?_
  refine z_geti (pc := 17) hG zc_X6 inX6 DL_3 0 rfl (by decide) rfl w533 dX5_forcedIn_17 ?_
  refine z_icmp_ge (pc := 20) (tgt := 65) hG dX5_forcedIn_20 rfl (fun hc => ?_) (fun hc => ?_)
  · replace h := zif_t hc h
    replace h := zex_some h
    obtain ⟨o, h, rfl⟩ := h
    refine z_iload_n (pc := 65) hG 3 rfl rfl dX5_forcedIn_65 ?_
    obtain rfl := Option.some.inj h
    exact z_iret (pc := 66) hG rfl rfl hk dX5_forcedIn_66
  · replace h := zif_f hc h
    refine z_iload_n (pc := 23) hG 2 rfl rfl dX5_forcedIn_23 ?_
    refine z_iconst (pc := 24) hG kc_m1 dX5_forcedIn_24 ?_
    refine z_icmp_eq (pc := 25) (tgt := 65) hG dX5_forcedIn_25 rfl (fun hc => ?_) (fun hc => ?_)
    · replace h := zif_t hc h
      replace h := zex_some h
      obtain ⟨o, h, rfl⟩ := h
      refine z_iload_n (pc := 65) hG 3 rfl rfl dX5_forcedIn_65 ?_
      obtain rfl := Option.some.inj h
      exact z_iret (pc := 66) hG rfl rfl hk dX5_forcedIn_66
    · replace h := zif_f hc h
      refine z_iload_n (pc := 28) hG 2 rfl rfl dX5_forcedIn_28 ?_
      refine z_iload (pc := 29) hG 4 rfl dX5_forcedIn_29 ?_
      refine z_ishr (pc := 31) hG dX5_forcedIn_31 ?_
      refine z_iconst (pc := 32) hG kc_1 dX5_forcedIn_32 ?_
      refine z_iand (pc := 33) hG dX5_forcedIn_33 ?_
      refine z_if_eq (pc := 34) (tgt := 59) hG dX5_forcedIn_34 rfl (fun hc => ?_) (fun hc => ?_)
      · replace h := zif_t hc h
        refine z_iinc (pc := 59) (ls' := [(4, .int (s.2 + (1 : Int32))), (0, .ref 20), (1, .int a1), (2, .int a2), (3, .int s.1)]) hG 4 rfl [0, 1, 2, 3, 4] (ki_1 _) (by decide) rfl dX5_forcedIn_59 ?_
        refine z_goto (pc := 62) (tgt := 11) hG dX5_forcedIn_62 rfl ?_
        obtain rfl := Option.some.inj h
        refine z_sub (ls' := [(0, .ref 20), (1, .int a1), (2, .int a2), (3, .int s.1), (4, .int (s.2 + (1 : Int32)))]) [1, 2, 3, 4, 0] rfl ?_
        exact hk
      · replace h := zif_f hc h
        refine z_aload_n (pc := 37) hG 0 rfl rfl dX5_forcedIn_37 ?_
        refine z_iload_n (pc := 38) hG 1 rfl rfl dX5_forcedIn_38 ?_
        refine z_iload_n (pc := 39) hG 2 rfl rfl dX5_forcedIn_39 ?_
        refine z_iload (pc := 40) hG 4 rfl dX5_forcedIn_40 ?_
        replace h := zbind h
        obtain ⟨v2, hv2, h⟩ := h
        refine z_cvI (pc := 42) (A' := 0) (B' := 0) hG [.int a1, .int a2, .int s.2] [] zc_X5 DL_20 (tX5_valuesIn hl0 a1 a2 s.2 g hv2) zy_X5_valuesIn ⟨w383, w384⟩ w398 dX5_forcedIn_42 rfl (Nat.le_of_ble_eq_true rfl) rfl rfl rfl (Nat.le_of_ble_eq_true rfl) rfl ?_
        replace h := zbind h
        obtain ⟨v3, hv3, h⟩ := h
        refine z_csI (pc := 45) (A' := 0) (B' := 0) hG [.int v2] [] (tJ6_bitCount_0f7a4 hl0 v2 g hv3) zy_J6_bitCount_0f7a4 w400 w399 dX5_forcedIn_45 rfl (Nat.le_of_ble_eq_true rfl) rfl rfl rfl (Nat.le_of_ble_eq_true rfl) rfl ?_
        refine z_iconst (pc := 48) hG kc_1 dX5_forcedIn_48 ?_
        refine z_icmp_ne (pc := 49) (tgt := 59) hG dX5_forcedIn_49 rfl (fun hc => ?_) (fun hc => ?_)
        · replace h := zif_f hc h
          refine z_iinc (pc := 59) (ls' := [(4, .int (s.2 + (1 : Int32))), (0, .ref 20), (1, .int a1), (2, .int a2), (3, .int s.1)]) hG 4 rfl [0, 1, 2, 3, 4] (ki_1 _) (by decide) rfl dX5_forcedIn_59 ?_
          refine z_goto (pc := 62) (tgt := 11) hG dX5_forcedIn_62 rfl ?_
          obtain rfl := Option.some.inj h
          refine z_sub (ls' := [(0, .ref 20), (1, .int a1), (2, .int a2), (3, .int s.1), (4, .int (s.2 + (1 : Int32)))]) [1, 2, 3, 4, 0] rfl ?_
          exact hk
        · replace h := zif_t hc h
          refine z_iload_n (pc := 52) hG 3 rfl rfl dX5_forcedIn_52 ?_
          refine z_iconst (pc := 53) hG kc_1 dX5_forcedIn_53 ?_
          refine z_iload (pc := 54) hG 4 rfl dX5_forcedIn_54 ?_
          refine z_ishl (pc := 56) hG dX5_forcedIn_56 ?_
          refine z_ior (pc := 57) hG dX5_forcedIn_57 ?_
          refine z_istore_n (pc := 58) (ls' := [(3, .int (s.1 ||| ((1 : Int32) <<< (s.2 &&& 31)))), (0, .ref 20), (1, .int a1), (2, .int a2), (4, .int s.2)]) hG [0, 1, 2, 3, 4] rfl (by decide) rfl dX5_forcedIn_58 ?_
          refine z_iinc (pc := 59) (ls' := [(4, .int (s.2 + (1 : Int32))), (3, .int (s.1 ||| ((1 : Int32) <<< (s.2 &&& 31)))), (0, .ref 20), (1, .int a1), (2, .int a2)]) hG 4 rfl [0, 1, 2, 3, 4] (ki_1 _) (by decide) rfl dX5_forcedIn_59 ?_
          refine z_goto (pc := 62) (tgt := 11) hG dX5_forcedIn_62 rfl ?_
          obtain rfl := Option.some.inj h
          refine z_sub (ls' := [(0, .ref 20), (1, .int a1), (2, .int a2), (3, .int (s.1 ||| ((1 : Int32) <<< (s.2 &&& 31)))), (4, .int (s.2 + (1 : Int32)))]) [2, 3, 4, 1, 0] rfl ?_
          exact hk
set_option maxHeartbeats 60000 in
theorem tX5_forcedIn {l : Launch} (hl0 : l.flags = flags0) (a1 : Int32) (g : zS) {r : Int32} (h : nX5_forcedIn a1 g = some r) : zC l yX5_forcedIn cX5_forcedIn 5 ((Option.some Jvm.ClassFile.FieldType.int)) 4 0 0 [.ref 20, .int a1] zD g (.inl (some (.int r)), zD, g) := by
  refine zC_of hl0 rfl (Nat.le_of_ble_eq_true rfl) (fun x hG hxl hk _ => ?_)
  subst hxl
  show zK x 4 0 [(0, .ref 20), (1, .int a1)] [] zD g 0 0
  unfold nX5_forcedIn at h
  refine z_aload_n (pc := 0) hG 0 rfl rfl dX5_forcedIn_0 ?_
  refine z_iload_n (pc := 1) hG 1 rfl rfl dX5_forcedIn_1 ?_
  replace h := zbind h
  obtain ⟨v1, hv1, h⟩ := h
  refine z_cvI (pc := 2) (A' := 0) (B' := 0) hG [.int a1] [] zc_X5 DL_20 (tX5_leastSet hl0 a1 g hv1) zy_X5_leastSet ⟨w352, w353⟩ w360 dX5_forcedIn_2 rfl (Nat.le_of_ble_eq_true rfl) rfl rfl rfl (Nat.le_of_ble_eq_true rfl) rfl ?_
  refine z_istore_n (pc := 5) (ls' := [(2, .int v1), (0, .ref 20), (1, .int a1)]) hG [0, 1, 2] rfl (by decide) rfl dX5_forcedIn_5 ?_
  refine z_iconst (pc := 6) hG kc_0 dX5_forcedIn_6 ?_
  refine z_istore_n (pc := 7) (ls' := [(3, .int (0 : Int32)), (2, .int v1), (0, .ref 20), (1, .int a1)]) hG [0, 1, 2, 3] rfl (by decide) rfl dX5_forcedIn_7 ?_
  refine z_iconst (pc := 8) hG kc_0 dX5_forcedIn_8 ?_
  refine z_istore (pc := 9) (ls' := [(4, .int (0 : Int32)), (3, .int (0 : Int32)), (2, .int v1), (0, .ref 20), (1, .int a1)]) hG [0, 1, 2, 3, 4] (by decide) rfl dX5_forcedIn_9 ?_
  refine z_sub (ls' := [(0, .ref 20), (1, .int a1), (2, .int v1), (3, .int (0 : Int32)), (4, .int (0 : Int32))]) [3, 4, 2, 1, 0] rfl ?_
  exact kwX5_forcedIn_11 hG hl0 a1 v1 g hk ((0 : Int32), (0 : Int32)) h
noncomputable def nX5_isRight (a1 : Int32) (g : zS) : Option Int32 :=
  (nX1_missingIn a1 (g.1 3 0)).bind fun v1 => if v1 = 0 then ((nX5_editsLeft a1 (0 : Int32) g).bind fun v2 => if v2 = 0 then (some ((1 : Int32))) else (some ((0 : Int32)))) else (some ((0 : Int32)))
set_option maxHeartbeats 60000 in
theorem tX5_isRight {l : Launch} (hl0 : l.flags = flags0) (a1 : Int32) (g : zS) {r : Int32} (h : nX5_isRight a1 g = some r) : zC l yX5_isRight cX5_isRight 2 ((Option.some Jvm.ClassFile.FieldType.boolean)) 2 0 0 [.ref 20, .int a1] zD g (.inl (some (.int r)), zD, g) := by
  refine zC_of hl0 rfl (Nat.le_of_ble_eq_true rfl) (fun x hG hxl hk _ => ?_)
  subst hxl
  show zK x 2 0 [(0, .ref 20), (1, .int a1)] [] zD g 0 0
  unfold nX5_isRight at h
  refine z_iload_n (pc := 0) hG 1 rfl rfl dX5_isRight_0 ?_
  refine z_aload_n (pc := 1) hG 0 rfl rfl dX5_isRight_1 ?_
  refine z_getr (pc := 2) hG zc_X5 inX5 DL_20 0 rfl (by decide) rfl w619 dX5_isRight_2 ?_
  refine z_geti (pc := 5) hG zc_X6 inX6 DL_3 0 rfl (by decide) rfl w533 dX5_isRight_5 ?_
  replace h := zbind h
  obtain ⟨v1, hv1, h⟩ := h
  refine z_csI (pc := 8) (A' := 0) (B' := 0) hG [.int a1, .int (g.1 3 0)] [] (tX1_missingIn hl0 a1 (g.1 3 0) g hv1) zy_X1_missingIn w276 w323 dX5_isRight_8 rfl (Nat.le_of_ble_eq_true rfl) rfl rfl rfl (Nat.le_of_ble_eq_true rfl) rfl ?_
  refine z_if_ne (pc := 11) (tgt := 27) hG dX5_isRight_11 rfl (fun hc => ?_) (fun hc => ?_)
  · replace h := zif_f hc h
    refine z_iconst (pc := 27) hG kc_0 dX5_isRight_27 ?_
    obtain rfl := Option.some.inj h
    exact z_iret (pc := 28) hG rfl rfl hk dX5_isRight_28
  · replace h := zif_t hc h
    refine z_aload_n (pc := 14) hG 0 rfl rfl dX5_isRight_14 ?_
    refine z_iload_n (pc := 15) hG 1 rfl rfl dX5_isRight_15 ?_
    refine z_iconst (pc := 16) hG kc_0 dX5_isRight_16 ?_
    replace h := zbind h
    obtain ⟨v2, hv2, h⟩ := h
    refine z_cvI (pc := 17) (A' := 0) (B' := 0) hG [.int a1, .int (0 : Int32)] [] zc_X5 DL_20 (tX5_editsLeft hl0 a1 (0 : Int32) g hv2) zy_X5_editsLeft ⟨w251, wp10⟩ w249 dX5_isRight_17 rfl (Nat.le_of_ble_eq_true rfl) rfl rfl rfl (Nat.le_of_ble_eq_true rfl) rfl ?_
    refine z_if_ne (pc := 20) (tgt := 27) hG dX5_isRight_20 rfl (fun hc => ?_) (fun hc => ?_)
    · replace h := zif_f hc h
      refine z_iconst (pc := 27) hG kc_0 dX5_isRight_27 ?_
      obtain rfl := Option.some.inj h
      exact z_iret (pc := 28) hG rfl rfl hk dX5_isRight_28
    · replace h := zif_t hc h
      refine z_iconst (pc := 23) hG kc_1 dX5_isRight_23 ?_
      refine z_goto (pc := 24) (tgt := 28) hG dX5_isRight_24 rfl ?_
      obtain rfl := Option.some.inj h
      exact z_iret (pc := 28) hG rfl rfl hk dX5_isRight_28
noncomputable def nX2_isOfGroup (a1 : Int32) (a2 : Int32) (a3 : Int32) (g : zS) : Option Int32 :=
  if (g.1 3 6) = (-1 : Int32) then (some ((1 : Int32))) else (if ((a3 >>> ((g.1 3 6) &&& 31)) &&& (1 : Int32)) = 0 then ((nX1_answerAt a1 (g.1 3 6)).bind fun v1 => (nX1_answerAt a2 (g.1 3 6)).bind fun v2 => if v1 = v2 then (some ((1 : Int32))) else (some ((0 : Int32)))) else (some ((1 : Int32))))
set_option maxHeartbeats 60000 in
theorem tX2_isOfGroup {l : Launch} (hl0 : l.flags = flags0) (a1 : Int32) (a2 : Int32) (a3 : Int32) (g : zS) {r : Int32} (h : nX2_isOfGroup a1 a2 a3 g = some r) : zC l yX2_isOfGroup cX2_isOfGroup 5 ((Option.some Jvm.ClassFile.FieldType.boolean)) 1 0 0 [.ref 34, .int a1, .int a2, .int a3] zD g (.inl (some (.int r)), zD, g) := by
  refine zC_of hl0 rfl (Nat.le_of_ble_eq_true rfl) (fun x hG hxl hk _ => ?_)
  subst hxl
  show zK x 1 0 [(0, .ref 34), (1, .int a1), (2, .int a2), (3, .int a3)] [] zD g 0 0
  unfold nX2_isOfGroup at h
  refine z_aload_n (pc := 0) hG 0 rfl rfl dX2_isOfGroup_0 ?_
  refine z_getr (pc := 1) hG zc_X2 inX2 DL_34 0 rfl (by decide) rfl w703 dX2_isOfGroup_1 ?_
  refine z_geti (pc := 4) hG zc_X6 inX6 DL_3 6 rfl (by decide) rfl w555 dX2_isOfGroup_4 ?_
  refine z_istore (pc := 7) (ls' := [(4, .int (g.1 3 6)), (0, .ref 34), (1, .int a1), (2, .int a2), (3, .int a3)]) hG [0, 1, 2, 3, 4] (by decide) rfl dX2_isOfGroup_7 ?_
  refine z_iload (pc := 9) hG 0 rfl dX2_isOfGroup_9 ?_
  refine z_iconst (pc := 11) hG kc_m1 dX2_isOfGroup_11 ?_
  refine z_icmp_eq (pc := 12) (tgt := 39) hG dX2_isOfGroup_12 rfl (fun hc => ?_) (fun hc => ?_)
  · replace h := zif_t hc h
    refine z_iconst (pc := 39) hG kc_1 dX2_isOfGroup_39 ?_
    refine z_goto (pc := 40) (tgt := 44) hG dX2_isOfGroup_40 rfl ?_
    obtain rfl := Option.some.inj h
    exact z_iret (pc := 44) hG rfl rfl hk dX2_isOfGroup_44
  · replace h := zif_f hc h
    refine z_iload_n (pc := 15) hG 4 rfl rfl dX2_isOfGroup_15 ?_
    refine z_iload (pc := 16) hG 0 rfl dX2_isOfGroup_16 ?_
    refine z_ishr (pc := 18) hG dX2_isOfGroup_18 ?_
    refine z_iconst (pc := 19) hG kc_1 dX2_isOfGroup_19 ?_
    refine z_iand (pc := 20) hG dX2_isOfGroup_20 ?_
    refine z_if_ne (pc := 21) (tgt := 39) hG dX2_isOfGroup_21 rfl (fun hc => ?_) (fun hc => ?_)
    · replace h := zif_f hc h
      refine z_iconst (pc := 39) hG kc_1 dX2_isOfGroup_39 ?_
      refine z_goto (pc := 40) (tgt := 44) hG dX2_isOfGroup_40 rfl ?_
      obtain rfl := Option.some.inj h
      exact z_iret (pc := 44) hG rfl rfl hk dX2_isOfGroup_44
    · replace h := zif_t hc h
      refine z_iload_n (pc := 24) hG 2 rfl rfl dX2_isOfGroup_24 ?_
      refine z_iload (pc := 25) hG 0 rfl dX2_isOfGroup_25 ?_
      replace h := zbind h
      obtain ⟨v1, hv1, h⟩ := h
      refine z_csI (pc := 27) (A' := 0) (B' := 0) hG [.int a1, .int (g.1 3 6)] [] (tX1_answerAt hl0 a1 (g.1 3 6) g hv1) zy_X1_answerAt w228 w444 dX2_isOfGroup_27 rfl (Nat.le_of_ble_eq_true rfl) rfl rfl rfl (Nat.le_of_ble_eq_true rfl) rfl ?_
      refine z_iload_n (pc := 30) hG 3 rfl rfl dX2_isOfGroup_30 ?_
      refine z_iload (pc := 31) hG 0 rfl dX2_isOfGroup_31 ?_
      replace h := zbind h
      obtain ⟨v2, hv2, h⟩ := h
      refine z_csI (pc := 33) (A' := 0) (B' := 0) hG [.int a2, .int (g.1 3 6)] [.int v1] (tX1_answerAt hl0 a2 (g.1 3 6) g hv2) zy_X1_answerAt w228 w444 dX2_isOfGroup_33 rfl (Nat.le_of_ble_eq_true rfl) rfl rfl rfl (Nat.le_of_ble_eq_true rfl) rfl ?_
      refine z_icmp_ne (pc := 36) (tgt := 43) hG dX2_isOfGroup_36 rfl (fun hc => ?_) (fun hc => ?_)
      · replace h := zif_f hc h
        refine z_iconst (pc := 43) hG kc_0 dX2_isOfGroup_43 ?_
        obtain rfl := Option.some.inj h
        exact z_iret (pc := 44) hG rfl rfl hk dX2_isOfGroup_44
      · replace h := zif_t hc h
        refine z_iconst (pc := 39) hG kc_1 dX2_isOfGroup_39 ?_
        refine z_goto (pc := 40) (tgt := 44) hG dX2_isOfGroup_40 rfl ?_
        obtain rfl := Option.some.inj h
        exact z_iret (pc := 44) hG rfl rfl hk dX2_isOfGroup_44
noncomputable def wX1_part_4 (a0 : Int32) (a1 : Int32) (s : (Int32 × Int32)) : Option ((Int32 × Int32) ⊕ Int32) :=
  if (5 : Int32) ≤ s.2 then (zex (some ((a0 &&& s.1)))) else (if ((a1 >>> (s.2 &&& 31)) &&& (1 : Int32)) = 0 then (some (.inl (s.1, (s.2 + (1 : Int32))))) else (some (.inl ((s.1 ||| ((7 : Int32) <<< (((3 : Int32) * s.2) &&& 31))), (s.2 + (1 : Int32))))))
noncomputable def nX1_part (a0 : Int32) (a1 : Int32) : Option Int32 :=
  wh (wX1_part_4 a0 a1) ((0 : Int32), (0 : Int32))
def qX1_part_4 (x : zXx) (a0 : Int32) (a1 : Int32) (g : zS) (o : (Int32 × Int32) ⊕ Int32) : Prop := match o with
  | .inl s => zK x 0 4 [(0, .int a0), (1, .int a1), (2, .int s.1), (3, .int s.2)] [] zD g 0 0
  | .inr r => ztg x = (.inl (some (.int r)), zD, g)
set_option maxHeartbeats 60000 in
theorem kwX1_part_4 {x : zXx} (hG : zG x cX1_part 4 RX1 ((Option.some Jvm.ClassFile.FieldType.int))) (hl0 : (zl0 x).flags = flags0) (a0 : Int32) (a1 : Int32) (g : zS) {o : Int32} (hk : ztg x = (.inl (some (.int o)), zD, g)) : ∀ s : (Int32 × Int32), wh (wX1_part_4 a0 a1) s = some o → zK x 0 4 [(0, .int a0), (1, .int a1), (2, .int s.1), (3, .int s.2)] [] zD g 0 0 := by
  refine wh_ind (fun s : (Int32 × Int32) => zK x 0 4 [(0, .int a0), (1, .int a1), (2, .int s.1), (3, .int s.2)] [] zD g 0 0) (fun s o h hk2 => ?_)
  replace hk : qX1_part_4 x a0 a1 g o := by
    cases o with
    | inl s => exact hk2
    | inr r => subst hk2; exact hk
  clear hk2
  unfold wX1_part_4 at h
  refine z_iload_n (pc := 4) hG 3 rfl rfl dX1_part_4 ?_
  refine z_iconst (pc := 5) hG kc_5 dX1_part_5 ?_
  refine z_icmp_ge (pc := 6) (tgt := 32) hG dX1_part_6 rfl (fun hc => ?_) (fun hc => ?_)
  · replace h := zif_t hc h
    replace h := zex_some h
    obtain ⟨o, h, rfl⟩ := h
    refine z_iload_n (pc := 32) hG 0 rfl rfl dX1_part_32 ?_
    refine z_iload_n (pc := 33) hG 2 rfl rfl dX1_part_33 ?_
    refine z_iand (pc := 34) hG dX1_part_34 ?_
    obtain rfl := Option.some.inj h
    exact z_iret (pc := 35) hG rfl rfl hk dX1_part_35
  · replace h := zif_f hc h
    refine z_iload_n (pc := 9) hG 1 rfl rfl dX1_part_9 ?_
    refine z_iload_n (pc := 10) hG 3 rfl rfl dX1_part_10 ?_
    refine z_ishr (pc := 11) hG dX1_part_11 ?_
    refine z_iconst (pc := 12) hG kc_1 dX1_part_12 ?_
    refine z_iand (pc := 13) hG dX1_part_13 ?_
    refine z_if_eq (pc := 14) (tgt := 26) hG dX1_part_14 rfl (fun hc => ?_) (fun hc => ?_)
    · replace h := zif_t hc h
      refine z_iinc (pc := 26) (ls' := [(3, .int (s.2 + (1 : Int32))), (0, .int a0), (1, .int a1), (2, .int s.1)]) hG 3 rfl [0, 1, 2, 3] (ki_1 _) (by decide) rfl dX1_part_26 ?_
      refine z_goto (pc := 29) (tgt := 4) hG dX1_part_29 rfl ?_
      obtain rfl := Option.some.inj h
      refine z_sub (ls' := [(0, .int a0), (1, .int a1), (2, .int s.1), (3, .int (s.2 + (1 : Int32)))]) [1, 2, 3, 0] rfl ?_
      exact hk
    · replace h := zif_f hc h
      refine z_iload_n (pc := 17) hG 2 rfl rfl dX1_part_17 ?_
      refine z_bipush (pc := 18) hG kb_7 dX1_part_18 ?_
      refine z_iconst (pc := 20) hG kc_3 dX1_part_20 ?_
      refine z_iload_n (pc := 21) hG 3 rfl rfl dX1_part_21 ?_
      refine z_imul (pc := 22) hG dX1_part_22 ?_
      refine z_ishl (pc := 23) hG dX1_part_23 ?_
      refine z_ior (pc := 24) hG dX1_part_24 ?_
      refine z_istore_n (pc := 25) (ls' := [(2, .int (s.1 ||| ((7 : Int32) <<< (((3 : Int32) * s.2) &&& 31)))), (0, .int a0), (1, .int a1), (3, .int s.2)]) hG [0, 1, 2, 3] rfl (by decide) rfl dX1_part_25 ?_
      refine z_iinc (pc := 26) (ls' := [(3, .int (s.2 + (1 : Int32))), (2, .int (s.1 ||| ((7 : Int32) <<< (((3 : Int32) * s.2) &&& 31)))), (0, .int a0), (1, .int a1)]) hG 3 rfl [0, 1, 2, 3] (ki_1 _) (by decide) rfl dX1_part_26 ?_
      refine z_goto (pc := 29) (tgt := 4) hG dX1_part_29 rfl ?_
      obtain rfl := Option.some.inj h
      refine z_sub (ls' := [(0, .int a0), (1, .int a1), (2, .int (s.1 ||| ((7 : Int32) <<< (((3 : Int32) * s.2) &&& 31)))), (3, .int (s.2 + (1 : Int32)))]) [2, 3, 1, 0] rfl ?_
      exact hk
set_option maxHeartbeats 60000 in
theorem tX1_part {l : Launch} (hl0 : l.flags = flags0) (a0 : Int32) (a1 : Int32) (g : zS) {r : Int32} (h : nX1_part a0 a1 = some r) : zC l yX1_part cX1_part 4 ((Option.some Jvm.ClassFile.FieldType.int)) 0 0 0 [.int a0, .int a1] zD g (.inl (some (.int r)), zD, g) := by
  refine zC_of hl0 rfl (Nat.le_of_ble_eq_true rfl) (fun x hG hxl hk _ => ?_)
  subst hxl
  show zK x 0 0 [(0, .int a0), (1, .int a1)] [] zD g 0 0
  unfold nX1_part at h
  refine z_iconst (pc := 0) hG kc_0 dX1_part_0 ?_
  refine z_istore_n (pc := 1) (ls' := [(2, .int (0 : Int32)), (0, .int a0), (1, .int a1)]) hG [0, 1, 2] rfl (by decide) rfl dX1_part_1 ?_
  refine z_iconst (pc := 2) hG kc_0 dX1_part_2 ?_
  refine z_istore_n (pc := 3) (ls' := [(3, .int (0 : Int32)), (2, .int (0 : Int32)), (0, .int a0), (1, .int a1)]) hG [0, 1, 2, 3] rfl (by decide) rfl dX1_part_3 ?_
  refine z_sub (ls' := [(0, .int a0), (1, .int a1), (2, .int (0 : Int32)), (3, .int (0 : Int32))]) [2, 3, 1, 0] rfl ?_
  exact kwX1_part_4 hG hl0 a0 a1 g hk ((0 : Int32), (0 : Int32)) h
noncomputable def nX1_blend (a0 : Int32) (a1 : Int32) (a2 : Int32) : Option Int32 :=
  (nX1_part a0 (a2 ^^^ (-1 : Int32))).bind fun v1 => (nX1_part a1 a2).bind fun v2 => some ((v1 ||| v2))
set_option maxHeartbeats 60000 in
theorem tX1_blend {l : Launch} (hl0 : l.flags = flags0) (a0 : Int32) (a1 : Int32) (a2 : Int32) (g : zS) {r : Int32} (h : nX1_blend a0 a1 a2 = some r) : zC l yX1_blend cX1_blend 3 ((Option.some Jvm.ClassFile.FieldType.int)) 1 0 0 [.int a0, .int a1, .int a2] zD g (.inl (some (.int r)), zD, g) := by
  refine zC_of hl0 rfl (Nat.le_of_ble_eq_true rfl) (fun x hG hxl hk _ => ?_)
  subst hxl
  show zK x 1 0 [(0, .int a0), (1, .int a1), (2, .int a2)] [] zD g 0 0
  unfold nX1_blend at h
  refine z_iload_n (pc := 0) hG 0 rfl rfl dX1_blend_0 ?_
  refine z_iload_n (pc := 1) hG 2 rfl rfl dX1_blend_1 ?_
  refine z_iconst (pc := 2) hG kc_m1 dX1_blend_2 ?_
  refine z_ixor (pc := 3) hG dX1_blend_3 ?_
  replace h := zbind h
  obtain ⟨v1, hv1, h⟩ := h
  refine z_csI (pc := 4) (A' := 0) (B' := 0) hG [.int a0, .int (a2 ^^^ (-1 : Int32))] [] (tX1_part hl0 a0 (a2 ^^^ (-1 : Int32)) g hv1) zy_X1_part w449 w448 dX1_blend_4 rfl (Nat.le_of_ble_eq_true rfl) rfl rfl rfl (Nat.le_of_ble_eq_true rfl) rfl ?_
  refine z_iload_n (pc := 7) hG 1 rfl rfl dX1_blend_7 ?_
  refine z_iload_n (pc := 8) hG 2 rfl rfl dX1_blend_8 ?_
  replace h := zbind h
  obtain ⟨v2, hv2, h⟩ := h
  refine z_csI (pc := 9) (A' := 0) (B' := 0) hG [.int a1, .int a2] [.int v1] (tX1_part hl0 a1 a2 g hv2) zy_X1_part w449 w448 dX1_blend_9 rfl (Nat.le_of_ble_eq_true rfl) rfl rfl rfl (Nat.le_of_ble_eq_true rfl) rfl ?_
  refine z_ior (pc := 12) hG dX1_blend_12 ?_
  obtain rfl := Option.some.inj h
  exact z_iret (pc := 13) hG rfl rfl hk dX1_blend_13
noncomputable def nX2_gives (a1 : Int32) (a2 : Int32) (a3 : Int32) (g : zS) : Option Int32 :=
  (nX5_isRight a2 g).bind fun v1 => if v1 = 0 then (some ((0 : Int32))) else ((nX2_isOfGroup a1 a2 a3 g).bind fun v2 => if v2 = 0 then (some ((0 : Int32))) else ((nX1_blend a1 a2 a3).bind fun v3 => (nX5_isRight v3 g).bind fun v4 => if v4 = 0 then (some ((0 : Int32))) else (some ((1 : Int32)))))
set_option maxHeartbeats 60000 in
theorem tX2_gives {l : Launch} (hl0 : l.flags = flags0) (a1 : Int32) (a2 : Int32) (a3 : Int32) (g : zS) {r : Int32} (h : nX2_gives a1 a2 a3 g = some r) : zC l yX2_gives cX2_gives 4 ((Option.some Jvm.ClassFile.FieldType.boolean)) 3 0 0 [.ref 34, .int a1, .int a2, .int a3] zD g (.inl (some (.int r)), zD, g) := by
  refine zC_of hl0 rfl (Nat.le_of_ble_eq_true rfl) (fun x hG hxl hk _ => ?_)
  subst hxl
  show zK x 3 0 [(0, .ref 34), (1, .int a1), (2, .int a2), (3, .int a3)] [] zD g 0 0
  unfold nX2_gives at h
  refine z_aload_n (pc := 0) hG 0 rfl rfl dX2_gives_0 ?_
  refine z_getr (pc := 1) hG zc_X2 inX2 DL_34 1 rfl (by decide) rfl w704 dX2_gives_1 ?_
  refine z_iload_n (pc := 4) hG 2 rfl rfl dX2_gives_4 ?_
  replace h := zbind h
  obtain ⟨v1, hv1, h⟩ := h
  refine z_cvI (pc := 5) (A' := 0) (B' := 0) hG [.int a2] [] zc_X5 DL_20 (tX5_isRight hl0 a2 g hv1) zy_X5_isRight ⟨w419, w420⟩ w418 dX2_gives_5 rfl (Nat.le_of_ble_eq_true rfl) rfl rfl rfl (Nat.le_of_ble_eq_true rfl) rfl ?_
  refine z_if_eq (pc := 8) (tgt := 41) hG dX2_gives_8 rfl (fun hc => ?_) (fun hc => ?_)
  · replace h := zif_t hc h
    refine z_iconst (pc := 41) hG kc_0 dX2_gives_41 ?_
    obtain rfl := Option.some.inj h
    exact z_iret (pc := 42) hG rfl rfl hk dX2_gives_42
  · replace h := zif_f hc h
    refine z_aload_n (pc := 11) hG 0 rfl rfl dX2_gives_11 ?_
    refine z_iload_n (pc := 12) hG 1 rfl rfl dX2_gives_12 ?_
    refine z_iload_n (pc := 13) hG 2 rfl rfl dX2_gives_13 ?_
    refine z_iload_n (pc := 14) hG 3 rfl rfl dX2_gives_14 ?_
    replace h := zbind h
    obtain ⟨v2, hv2, h⟩ := h
    refine z_cvI (pc := 15) (A' := 0) (B' := 0) hG [.int a1, .int a2, .int a3] [] zc_X2 DL_34 (tX2_isOfGroup hl0 a1 a2 a3 g hv2) zy_X2_isOfGroup ⟨w442, wp20⟩ w440 dX2_gives_15 rfl (Nat.le_of_ble_eq_true rfl) rfl rfl rfl (Nat.le_of_ble_eq_true rfl) rfl ?_
    refine z_if_eq (pc := 18) (tgt := 41) hG dX2_gives_18 rfl (fun hc => ?_) (fun hc => ?_)
    · replace h := zif_t hc h
      refine z_iconst (pc := 41) hG kc_0 dX2_gives_41 ?_
      obtain rfl := Option.some.inj h
      exact z_iret (pc := 42) hG rfl rfl hk dX2_gives_42
    · replace h := zif_f hc h
      refine z_aload_n (pc := 21) hG 0 rfl rfl dX2_gives_21 ?_
      refine z_getr (pc := 22) hG zc_X2 inX2 DL_34 1 rfl (by decide) rfl w704 dX2_gives_22 ?_
      refine z_iload_n (pc := 25) hG 1 rfl rfl dX2_gives_25 ?_
      refine z_iload_n (pc := 26) hG 2 rfl rfl dX2_gives_26 ?_
      refine z_iload_n (pc := 27) hG 3 rfl rfl dX2_gives_27 ?_
      replace h := zbind h
      obtain ⟨v3, hv3, h⟩ := h
      refine z_csI (pc := 28) (A' := 0) (B' := 0) hG [.int a1, .int a2, .int a3] [.ref 20] (tX1_blend hl0 a1 a2 a3 g hv3) zy_X1_blend w446 w445 dX2_gives_28 rfl (Nat.le_of_ble_eq_true rfl) rfl rfl rfl (Nat.le_of_ble_eq_true rfl) rfl ?_
      replace h := zbind h
      obtain ⟨v4, hv4, h⟩ := h
      refine z_cvI (pc := 31) (A' := 0) (B' := 0) hG [.int v3] [] zc_X5 DL_20 (tX5_isRight hl0 v3 g hv4) zy_X5_isRight ⟨w419, w420⟩ w418 dX2_gives_31 rfl (Nat.le_of_ble_eq_true rfl) rfl rfl rfl (Nat.le_of_ble_eq_true rfl) rfl ?_
      refine z_if_eq (pc := 34) (tgt := 41) hG dX2_gives_34 rfl (fun hc => ?_) (fun hc => ?_)
      · replace h := zif_t hc h
        refine z_iconst (pc := 41) hG kc_0 dX2_gives_41 ?_
        obtain rfl := Option.some.inj h
        exact z_iret (pc := 42) hG rfl rfl hk dX2_gives_42
      · replace h := zif_f hc h
        refine z_iconst (pc := 37) hG kc_1 dX2_gives_37 ?_
        refine z_goto (pc := 38) (tgt := 42) hG dX2_gives_38 rfl ?_
        obtain rfl := Option.some.inj h
        exact z_iret (pc := 42) hG rfl rfl hk dX2_gives_42
noncomputable def jX6_apart_28 (a1 : Int32) (g : zS) : Option Int32 :=
  zchk (zin a1 5) (some ((g.1 4 a1.toNatClampNeg)))
noncomputable def nX6_apart (a1 : Int32) (a2 : Int32) (a3 : Int32) (g : zS) : Option Int32 :=
  if a2 = a3 then (some ((0 : Int32))) else (zchk (zin a1 5) (if (g.1 6 a1.toNatClampNeg) = 0 then (some ((1 : Int32))) else (if a2 = (-1 : Int32) then (jX6_apart_28 a1 g) else (if a3 = (-1 : Int32) then (jX6_apart_28 a1 g) else (some ((if 0 ≤ (a2 - a3) then (a2 - a3) else 0 - (a2 - a3))))))))
set_option maxHeartbeats 60000 in
theorem kjX6_apart_28 {x : zXx} (hG : zG x cX6_apart 4 RX6 ((Option.some Jvm.ClassFile.FieldType.int))) (hl0 : (zl0 x).flags = flags0) (a1 : Int32) (g : zS) {o : Int32} (h : jX6_apart_28 a1 g = some o) (hk : ztg x = (.inl (some (.int o)), zD, g)) : zK x 0 28 [(0, .ref 3), (1, .int a1)] [] zD g 0 0 := by
  unfold jX6_apart_28 at h
  refine z_aload_n (pc := 28) hG 0 rfl rfl dX6_apart_28 ?_
  refine z_getr (pc := 29) hG zc_X6 inX6 DL_3 1 rfl (by decide) rfl w538 dX6_apart_29 ?_
  refine z_iload_n (pc := 32) hG 1 rfl rfl dX6_apart_32 ?_
  replace h := zchk_some h
  obtain ⟨hc, h⟩ := h
  refine z_iald (pc := 33) hG DL_4 (zin_in hc) dX6_apart_33 ?_
  refine z_goto (pc := 34) (tgt := 43) hG dX6_apart_34 rfl ?_
  obtain rfl := Option.some.inj h
  exact z_iret (pc := 43) hG rfl rfl hk dX6_apart_43
set_option maxHeartbeats 60000 in
theorem tX6_apart {l : Launch} (hl0 : l.flags = flags0) (a1 : Int32) (a2 : Int32) (a3 : Int32) (g : zS) {r : Int32} (h : nX6_apart a1 a2 a3 g = some r) : zC l yX6_apart cX6_apart 4 ((Option.some Jvm.ClassFile.FieldType.int)) 0 0 0 [.ref 3, .int a1, .int a2, .int a3] zD g (.inl (some (.int r)), zD, g) := by
  refine zC_of hl0 rfl (Nat.le_of_ble_eq_true rfl) (fun x hG hxl hk _ => ?_)
  subst hxl
  show zK x 0 0 [(0, .ref 3), (1, .int a1), (2, .int a2), (3, .int a3)] [] zD g 0 0
  unfold nX6_apart at h
  refine z_iload_n (pc := 0) hG 2 rfl rfl dX6_apart_0 ?_
  refine z_iload_n (pc := 1) hG 3 rfl rfl dX6_apart_1 ?_
  refine z_icmp_ne (pc := 2) (tgt := 7) hG dX6_apart_2 rfl (fun hc => ?_) (fun hc => ?_)
  · replace h := zif_f hc h
    refine z_aload_n (pc := 7) hG 0 rfl rfl dX6_apart_7 ?_
    refine z_getr (pc := 8) hG zc_X6 inX6 DL_3 3 rfl (by decide) rfl w546 dX6_apart_8 ?_
    refine z_iload_n (pc := 11) hG 1 rfl rfl dX6_apart_11 ?_
    replace h := zchk_some h
    obtain ⟨hc, h⟩ := h
    refine z_iald (pc := 12) hG DL_6 (zin_in hc) dX6_apart_12 ?_
    refine z_if_ne (pc := 13) (tgt := 18) hG dX6_apart_13 rfl (fun hc => ?_) (fun hc => ?_)
    · replace h := zif_f hc h
      refine z_iload_n (pc := 18) hG 2 rfl rfl dX6_apart_18 ?_
      refine z_iconst (pc := 19) hG kc_m1 dX6_apart_19 ?_
      refine z_icmp_eq (pc := 20) (tgt := 28) hG dX6_apart_20 rfl (fun hc => ?_) (fun hc => ?_)
      · replace h := zif_t hc h
        refine z_sub (ls' := [(0, .ref 3), (1, .int a1)]) [0, 1] rfl ?_
        exact kjX6_apart_28 hG hl0 a1 g h hk
      · replace h := zif_f hc h
        refine z_iload_n (pc := 23) hG 3 rfl rfl dX6_apart_23 ?_
        refine z_iconst (pc := 24) hG kc_m1 dX6_apart_24 ?_
        refine z_icmp_ne (pc := 25) (tgt := 37) hG dX6_apart_25 rfl (fun hc => ?_) (fun hc => ?_)
        · replace h := zif_f hc h
          refine z_iload_n (pc := 37) hG 2 rfl rfl dX6_apart_37 ?_
          refine z_iload_n (pc := 38) hG 3 rfl rfl dX6_apart_38 ?_
          refine z_isub (pc := 39) hG dX6_apart_39 ?_
          refine z_abs (pc := 40) hG w460 w461 w16 w462 (Nat.le_of_ble_eq_true rfl) dX6_apart_40 ?_
          obtain rfl := Option.some.inj h
          exact z_iret (pc := 43) hG rfl rfl hk dX6_apart_43
        · replace h := zif_t hc h
          refine z_sub (ls' := [(0, .ref 3), (1, .int a1)]) [0, 1] rfl ?_
          exact kjX6_apart_28 hG hl0 a1 g h hk
    · replace h := zif_t hc h
      refine z_iconst (pc := 16) hG kc_1 dX6_apart_16 ?_
      obtain rfl := Option.some.inj h
      exact z_iret (pc := 17) hG rfl rfl hk dX6_apart_17
  · replace h := zif_t hc h
    refine z_iconst (pc := 5) hG kc_0 dX6_apart_5 ?_
    obtain rfl := Option.some.inj h
    exact z_iret (pc := 6) hG rfl rfl hk dX6_apart_6
noncomputable def wX6_farApart_6 (a1 : Int32) (a2 : Int32) (a3 : Int32) (g : zS) (s : (Int32 × Int32)) : Option ((Int32 × Int32) ⊕ Int32) :=
  if (g.1 3 0) ≤ s.2 then (zex (some (s.1))) else (if ((a3 >>> (s.2 &&& 31)) &&& (1 : Int32)) = 0 then (zchk (zin s.2 5) ((nX1_answerAt a1 s.2).bind fun v1 => (nX1_answerAt a2 s.2).bind fun v2 => (nX6_apart s.2 v1 v2 g).bind fun v3 => some (.inl ((s.1 + ((g.1 5 s.2.toNatClampNeg) * v3)), (s.2 + (1 : Int32)))))) else (some (.inl (s.1, (s.2 + (1 : Int32))))))
noncomputable def nX6_farApart (a1 : Int32) (a2 : Int32) (a3 : Int32) (g : zS) : Option Int32 :=
  wh (wX6_farApart_6 a1 a2 a3 g) ((0 : Int32), (0 : Int32))
def qX6_farApart_6 (x : zXx) (a1 : Int32) (a2 : Int32) (a3 : Int32) (g : zS) (o : (Int32 × Int32) ⊕ Int32) : Prop := match o with
  | .inl s => zK x 1 6 [(0, .ref 3), (1, .int a1), (2, .int a2), (3, .int a3), (4, .int s.1), (5, .int s.2)] [] zD g 0 0
  | .inr r => ztg x = (.inl (some (.int r)), zD, g)
set_option maxHeartbeats 60000 in
theorem kwX6_farApart_6 {x : zXx} (hG : zG x cX6_farApart 6 RX6 ((Option.some Jvm.ClassFile.FieldType.int))) (hl0 : (zl0 x).flags = flags0) (a1 : Int32) (a2 : Int32) (a3 : Int32) (g : zS) {o : Int32} (hk : ztg x = (.inl (some (.int o)), zD, g)) : ∀ s : (Int32 × Int32), wh (wX6_farApart_6 a1 a2 a3 g) s = some o → zK x 1 6 [(0, .ref 3), (1, .int a1), (2, .int a2), (3, .int a3), (4, .int s.1), (5, .int s.2)] [] zD g 0 0 := by
  refine wh_ind (fun s : (Int32 × Int32) => zK x 1 6 [(0, .ref 3), (1, .int a1), (2, .int a2), (3, .int a3), (4, .int s.1), (5, .int s.2)] [] zD g 0 0) (fun s o h hk2 => ?_)
  replace hk : qX6_farApart_6 x a1 a2 a3 g o := by
    cases o with
    | inl s => exact hk2
    | inr r => subst hk2; exact hk
  clear hk2
  unfold wX6_farApart_6 at h
  refine z_iload (pc := 6) hG 5 rfl dX6_farApart_6 ?_
  refine z_aload_n (pc := 8) hG 0 rfl rfl dX6_farApart_8 ?_
  refine z_geti (pc := 9) hG zc_X6 inX6 DL_3 0 rfl (by decide) rfl w532 dX6_farApart_9 ?_
  refine z_icmp_ge (pc := 12) (tgt := 61) hG dX6_farApart_12 rfl (fun hc => ?_) (fun hc => ?_)
  · replace h := zif_t hc h
    replace h := zex_some h
    obtain ⟨o, h, rfl⟩ := h
    refine z_iload (pc := 61) hG 4 rfl dX6_farApart_61 ?_
    obtain rfl := Option.some.inj h
    exact z_iret (pc := 63) hG rfl rfl hk dX6_farApart_63
  · replace h := zif_f hc h
    refine z_iload_n (pc := 15) hG 3 rfl rfl dX6_farApart_15 ?_
    refine z_iload (pc := 16) hG 5 rfl dX6_farApart_16 ?_
    refine z_ishr (pc := 18) hG dX6_farApart_18 ?_
    refine z_iconst (pc := 19) hG kc_1 dX6_farApart_19 ?_
    refine z_iand (pc := 20) hG dX6_farApart_20 ?_
    refine z_if_ne (pc := 21) (tgt := 55) hG dX6_farApart_21 rfl (fun hc => ?_) (fun hc => ?_)
    · replace h := zif_f hc h
      refine z_iinc (pc := 55) (ls' := [(5, .int (s.2 + (1 : Int32))), (0, .ref 3), (1, .int a1), (2, .int a2), (3, .int a3), (4, .int s.1)]) hG 5 rfl [0, 1, 2, 3, 4, 5] (ki_1 _) (by decide) rfl dX6_farApart_55 ?_
      refine z_goto (pc := 58) (tgt := 6) hG dX6_farApart_58 rfl ?_
      obtain rfl := Option.some.inj h
      refine z_sub (ls' := [(0, .ref 3), (1, .int a1), (2, .int a2), (3, .int a3), (4, .int s.1), (5, .int (s.2 + (1 : Int32)))]) [1, 2, 3, 4, 5, 0] rfl ?_
      exact hk
    · replace h := zif_t hc h
      refine z_iload (pc := 24) hG 4 rfl dX6_farApart_24 ?_
      refine z_aload_n (pc := 26) hG 0 rfl rfl dX6_farApart_26 ?_
      refine z_getr (pc := 27) hG zc_X6 inX6 DL_3 2 rfl (by decide) rfl w543 dX6_farApart_27 ?_
      refine z_iload (pc := 30) hG 5 rfl dX6_farApart_30 ?_
      replace h := zchk_some h
      obtain ⟨hc, h⟩ := h
      refine z_iald (pc := 32) hG DL_5 (zin_in hc) dX6_farApart_32 ?_
      refine z_aload_n (pc := 33) hG 0 rfl rfl dX6_farApart_33 ?_
      refine z_iload (pc := 34) hG 5 rfl dX6_farApart_34 ?_
      refine z_iload_n (pc := 36) hG 1 rfl rfl dX6_farApart_36 ?_
      refine z_iload (pc := 37) hG 5 rfl dX6_farApart_37 ?_
      replace h := zbind h
      obtain ⟨v1, hv1, h⟩ := h
      refine z_csI (pc := 39) (A' := 0) (B' := 0) hG [.int a1, .int s.2] [.int s.2, .ref 3, .int (g.1 5 s.2.toNatClampNeg), .int s.1] (tX1_answerAt hl0 a1 s.2 g hv1) zy_X1_answerAt w228 w227 dX6_farApart_39 rfl (Nat.le_of_ble_eq_true rfl) rfl rfl rfl (Nat.le_of_ble_eq_true rfl) rfl ?_
      refine z_iload_n (pc := 42) hG 2 rfl rfl dX6_farApart_42 ?_
      refine z_iload (pc := 43) hG 5 rfl dX6_farApart_43 ?_
      replace h := zbind h
      obtain ⟨v2, hv2, h⟩ := h
      refine z_csI (pc := 45) (A' := 0) (B' := 0) hG [.int a2, .int s.2] [.int v1, .int s.2, .ref 3, .int (g.1 5 s.2.toNatClampNeg), .int s.1] (tX1_answerAt hl0 a2 s.2 g hv2) zy_X1_answerAt w228 w227 dX6_farApart_45 rfl (Nat.le_of_ble_eq_true rfl) rfl rfl rfl (Nat.le_of_ble_eq_true rfl) rfl ?_
      replace h := zbind h
      obtain ⟨v3, hv3, h⟩ := h
      refine z_cvI (pc := 48) (A' := 0) (B' := 0) hG [.int s.2, .int v1, .int v2] [.int (g.1 5 s.2.toNatClampNeg), .int s.1] zc_X6 DL_3 (tX6_apart hl0 s.2 v1 v2 g hv3) zy_X6_apart ⟨w457, wp21⟩ w455 dX6_farApart_48 rfl (Nat.le_of_ble_eq_true rfl) rfl rfl rfl (Nat.le_of_ble_eq_true rfl) rfl ?_
      refine z_imul (pc := 51) hG dX6_farApart_51 ?_
      refine z_iadd (pc := 52) hG dX6_farApart_52 ?_
      refine z_istore (pc := 53) (ls' := [(4, .int (s.1 + ((g.1 5 s.2.toNatClampNeg) * v3))), (0, .ref 3), (1, .int a1), (2, .int a2), (3, .int a3), (5, .int s.2)]) hG [0, 1, 2, 3, 4, 5] (by decide) rfl dX6_farApart_53 ?_
      refine z_iinc (pc := 55) (ls' := [(5, .int (s.2 + (1 : Int32))), (4, .int (s.1 + ((g.1 5 s.2.toNatClampNeg) * v3))), (0, .ref 3), (1, .int a1), (2, .int a2), (3, .int a3)]) hG 5 rfl [0, 1, 2, 3, 4, 5] (ki_1 _) (by decide) rfl dX6_farApart_55 ?_
      refine z_goto (pc := 58) (tgt := 6) hG dX6_farApart_58 rfl ?_
      obtain rfl := Option.some.inj h
      refine z_sub (ls' := [(0, .ref 3), (1, .int a1), (2, .int a2), (3, .int a3), (4, .int (s.1 + ((g.1 5 s.2.toNatClampNeg) * v3))), (5, .int (s.2 + (1 : Int32)))]) [2, 3, 4, 5, 1, 0] rfl ?_
      exact hk
set_option maxHeartbeats 60000 in
theorem tX6_farApart {l : Launch} (hl0 : l.flags = flags0) (a1 : Int32) (a2 : Int32) (a3 : Int32) (g : zS) {r : Int32} (h : nX6_farApart a1 a2 a3 g = some r) : zC l yX6_farApart cX6_farApart 6 ((Option.some Jvm.ClassFile.FieldType.int)) 1 0 0 [.ref 3, .int a1, .int a2, .int a3] zD g (.inl (some (.int r)), zD, g) := by
  refine zC_of hl0 rfl (Nat.le_of_ble_eq_true rfl) (fun x hG hxl hk _ => ?_)
  subst hxl
  show zK x 1 0 [(0, .ref 3), (1, .int a1), (2, .int a2), (3, .int a3)] [] zD g 0 0
  unfold nX6_farApart at h
  refine z_iconst (pc := 0) hG kc_0 dX6_farApart_0 ?_
  refine z_istore (pc := 1) (ls' := [(4, .int (0 : Int32)), (0, .ref 3), (1, .int a1), (2, .int a2), (3, .int a3)]) hG [0, 1, 2, 3, 4] (by decide) rfl dX6_farApart_1 ?_
  refine z_iconst (pc := 3) hG kc_0 dX6_farApart_3 ?_
  refine z_istore (pc := 4) (ls' := [(5, .int (0 : Int32)), (4, .int (0 : Int32)), (0, .ref 3), (1, .int a1), (2, .int a2), (3, .int a3)]) hG [0, 1, 2, 3, 4, 5] (by decide) rfl dX6_farApart_4 ?_
  refine z_sub (ls' := [(0, .ref 3), (1, .int a1), (2, .int a2), (3, .int a3), (4, .int (0 : Int32)), (5, .int (0 : Int32))]) [2, 3, 4, 5, 1, 0] rfl ?_
  exact kwX6_farApart_6 hG hl0 a1 a2 a3 g hk ((0 : Int32), (0 : Int32)) h
noncomputable def jX2_insert_55 (a1 : Int32) (a2 : Int32) (a3 : Int32) (g : zS) : Option zS :=
  zchk (zin a3 40) (zchk (zin a3 40) (some ((zi (zi (zi g 36 a3.toNatClampNeg a2) 35 a3.toNatClampNeg a1) 34 5 (((zi (zi g 36 a3.toNatClampNeg a2) 35 a3.toNatClampNeg a1).1 34 5) + (1 : Int32))))))
noncomputable def wX2_insert_5 (a1 : Int32) (a2 : Int32) (s : (Int32 × zS)) : Option ((Int32 × zS) ⊕ zS) :=
  if s.1 ≤ 0 then (zex (jX2_insert_55 a1 a2 s.1 s.2)) else (zchk (zin (s.1 - (1 : Int32)) 40) (if (s.2.1 36 (s.1 - (1 : Int32)).toNatClampNeg) ≤ a2 then (zex (jX2_insert_55 a1 a2 s.1 s.2)) else (zchk (zin (s.1 - (1 : Int32)) 40) (zchk (zin s.1 40) (zchk (zin (s.1 - (1 : Int32)) 40) (zchk (zin s.1 40) (some (.inl ((s.1 + (-1 : Int32)), (zi (zi s.2 36 s.1.toNatClampNeg (s.2.1 36 (s.1 - (1 : Int32)).toNatClampNeg)) 35 s.1.toNatClampNeg ((zi s.2 36 s.1.toNatClampNeg (s.2.1 36 (s.1 - (1 : Int32)).toNatClampNeg)).1 35 (s.1 - (1 : Int32)).toNatClampNeg)))))))))))
noncomputable def nX2_insert (a1 : Int32) (a2 : Int32) (g : zS) : Option zS :=
  wh (wX2_insert_5 a1 a2) ((g.1 34 5), g)
def qX2_insert_5 (x : zXx) (a1 : Int32) (a2 : Int32) (o : (Int32 × zS) ⊕ zS) : Prop := match o with
  | .inl s => zK x 0 5 [(0, .ref 34), (1, .int a1), (2, .int a2), (3, .int s.1)] [] zD s.2 0 0
  | .inr r => ztg x = (.inl none, zD, r)
set_option maxHeartbeats 60000 in
theorem kjX2_insert_55 {x : zXx} (hG : zG x cX2_insert 4 RX2 ((Option.none : Option Jvm.ClassFile.FieldType))) (hl0 : (zl0 x).flags = flags0) (a1 : Int32) (a2 : Int32) (a3 : Int32) (g : zS) {o : zS} (h : jX2_insert_55 a1 a2 a3 g = some o) (hk : ztg x = (.inl none, zD, o)) : zK x 0 55 [(0, .ref 34), (1, .int a1), (2, .int a2), (3, .int a3)] [] zD g 0 0 := by
  unfold jX2_insert_55 at h
  refine z_aload_n (pc := 55) hG 0 rfl rfl dX2_insert_55 ?_
  refine z_getr (pc := 56) hG zc_X2 inX2 DL_34 4 rfl (by decide) rfl w707 dX2_insert_56 ?_
  refine z_iload_n (pc := 59) hG 3 rfl rfl dX2_insert_59 ?_
  refine z_iload_n (pc := 60) hG 2 rfl rfl dX2_insert_60 ?_
  replace h := zchk_some h
  obtain ⟨hc, h⟩ := h
  refine z_iast (pc := 61) hG DL_36 (zin_in hc) dX2_insert_61 ?_
  refine z_aload_n (pc := 62) hG 0 rfl rfl dX2_insert_62 ?_
  refine z_getr (pc := 63) hG zc_X2 inX2 DL_34 3 rfl (by decide) rfl w706 dX2_insert_63 ?_
  refine z_iload_n (pc := 66) hG 3 rfl rfl dX2_insert_66 ?_
  refine z_iload_n (pc := 67) hG 1 rfl rfl dX2_insert_67 ?_
  replace h := zchk_some h
  obtain ⟨hc, h⟩ := h
  refine z_iast (pc := 68) hG DL_35 (zin_in hc) dX2_insert_68 ?_
  refine z_aload_n (pc := 69) hG 0 rfl rfl dX2_insert_69 ?_
  refine z_dup (pc := 70) hG rfl dX2_insert_70 ?_
  refine z_geti (pc := 71) hG zc_X2 inX2 DL_34 5 rfl (by decide) rfl w708 dX2_insert_71 ?_
  refine z_iconst (pc := 74) hG kc_1 dX2_insert_74 ?_
  refine z_iadd (pc := 75) hG dX2_insert_75 ?_
  refine z_puti (pc := 76) hG zc_X2 inX2 tyX2 tyX2_ok nmX2 DL_34 5 rfl (by decide) rfl w708 rfl rfl rfl dX2_insert_76 ?_
  obtain rfl := Option.some.inj h
  exact z_vret (pc := 79) hG rfl hk dX2_insert_79
set_option maxHeartbeats 60000 in
theorem kwX2_insert_5 {x : zXx} (hG : zG x cX2_insert 4 RX2 ((Option.none : Option Jvm.ClassFile.FieldType))) (hl0 : (zl0 x).flags = flags0) (a1 : Int32) (a2 : Int32) {o : zS} (hk : ztg x = (.inl none, zD, o)) : ∀ s : (Int32 × zS), wh (wX2_insert_5 a1 a2) s = some o → zK x 0 5 [(0, .ref 34), (1, .int a1), (2, .int a2), (3, .int s.1)] [] zD s.2 0 0 := by
  refine wh_ind (fun s : (Int32 × zS) => zK x 0 5 [(0, .ref 34), (1, .int a1), (2, .int a2), (3, .int s.1)] [] zD s.2 0 0) (fun s o h hk2 => ?_)
  replace hk : qX2_insert_5 x a1 a2 o := by
    cases o with
    | inl s => exact hk2
    | inr r => subst hk2; exact hk
  clear hk2
  unfold wX2_insert_5 at h
  refine z_iload_n (pc := 5) hG 3 rfl rfl dX2_insert_5 ?_
  refine z_if_le (pc := 6) (tgt := 55) hG dX2_insert_6 rfl (fun hc => ?_) (fun hc => ?_)
  · replace h := zif_t hc h
    replace h := zex_some h
    obtain ⟨o, h, rfl⟩ := h
    exact kjX2_insert_55 hG hl0 a1 a2 s.1 s.2 h hk
  · replace h := zif_f hc h
    refine z_aload_n (pc := 9) hG 0 rfl rfl dX2_insert_9 ?_
    refine z_getr (pc := 10) hG zc_X2 inX2 DL_34 4 rfl (by decide) rfl w707 dX2_insert_10 ?_
    refine z_iload_n (pc := 13) hG 3 rfl rfl dX2_insert_13 ?_
    refine z_iconst (pc := 14) hG kc_1 dX2_insert_14 ?_
    refine z_isub (pc := 15) hG dX2_insert_15 ?_
    replace h := zchk_some h
    obtain ⟨hc, h⟩ := h
    refine z_iald (pc := 16) hG DL_36 (zin_in hc) dX2_insert_16 ?_
    refine z_iload_n (pc := 17) hG 2 rfl rfl dX2_insert_17 ?_
    refine z_icmp_le (pc := 18) (tgt := 55) hG dX2_insert_18 rfl (fun hc => ?_) (fun hc => ?_)
    · replace h := zif_t hc h
      replace h := zex_some h
      obtain ⟨o, h, rfl⟩ := h
      exact kjX2_insert_55 hG hl0 a1 a2 s.1 s.2 h hk
    · replace h := zif_f hc h
      refine z_aload_n (pc := 21) hG 0 rfl rfl dX2_insert_21 ?_
      refine z_getr (pc := 22) hG zc_X2 inX2 DL_34 4 rfl (by decide) rfl w707 dX2_insert_22 ?_
      refine z_iload_n (pc := 25) hG 3 rfl rfl dX2_insert_25 ?_
      refine z_aload_n (pc := 26) hG 0 rfl rfl dX2_insert_26 ?_
      refine z_getr (pc := 27) hG zc_X2 inX2 DL_34 4 rfl (by decide) rfl w707 dX2_insert_27 ?_
      refine z_iload_n (pc := 30) hG 3 rfl rfl dX2_insert_30 ?_
      refine z_iconst (pc := 31) hG kc_1 dX2_insert_31 ?_
      refine z_isub (pc := 32) hG dX2_insert_32 ?_
      replace h := zchk_some h
      obtain ⟨hc, h⟩ := h
      refine z_iald (pc := 33) hG DL_36 (zin_in hc) dX2_insert_33 ?_
      replace h := zchk_some h
      obtain ⟨hc, h⟩ := h
      refine z_iast (pc := 34) hG DL_36 (zin_in hc) dX2_insert_34 ?_
      refine z_aload_n (pc := 35) hG 0 rfl rfl dX2_insert_35 ?_
      refine z_getr (pc := 36) hG zc_X2 inX2 DL_34 3 rfl (by decide) rfl w706 dX2_insert_36 ?_
      refine z_iload_n (pc := 39) hG 3 rfl rfl dX2_insert_39 ?_
      refine z_aload_n (pc := 40) hG 0 rfl rfl dX2_insert_40 ?_
      refine z_getr (pc := 41) hG zc_X2 inX2 DL_34 3 rfl (by decide) rfl w706 dX2_insert_41 ?_
      refine z_iload_n (pc := 44) hG 3 rfl rfl dX2_insert_44 ?_
      refine z_iconst (pc := 45) hG kc_1 dX2_insert_45 ?_
      refine z_isub (pc := 46) hG dX2_insert_46 ?_
      replace h := zchk_some h
      obtain ⟨hc, h⟩ := h
      refine z_iald (pc := 47) hG DL_35 (zin_in hc) dX2_insert_47 ?_
      replace h := zchk_some h
      obtain ⟨hc, h⟩ := h
      refine z_iast (pc := 48) hG DL_35 (zin_in hc) dX2_insert_48 ?_
      refine z_iinc (pc := 49) (ls' := [(3, .int (s.1 + (-1 : Int32))), (0, .ref 34), (1, .int a1), (2, .int a2)]) hG 3 rfl [0, 1, 2, 3] (ki_m1 _) (by decide) rfl dX2_insert_49 ?_
      refine z_goto (pc := 52) (tgt := 5) hG dX2_insert_52 rfl ?_
      obtain rfl := Option.some.inj h
      refine z_sub (ls' := [(0, .ref 34), (1, .int a1), (2, .int a2), (3, .int (s.1 + (-1 : Int32)))]) [1, 2, 3, 0] rfl ?_
      exact hk
set_option maxHeartbeats 60000 in
theorem tX2_insert {l : Launch} (hl0 : l.flags = flags0) (a1 : Int32) (a2 : Int32) (g : zS) {r : zS} (h : nX2_insert a1 a2 g = some r) : zC l yX2_insert cX2_insert 4 ((Option.none : Option Jvm.ClassFile.FieldType)) 0 0 0 [.ref 34, .int a1, .int a2] zD g (.inl none, zD, r) := by
  refine zC_of hl0 rfl (Nat.le_of_ble_eq_true rfl) (fun x hG hxl hk _ => ?_)
  subst hxl
  show zK x 0 0 [(0, .ref 34), (1, .int a1), (2, .int a2)] [] zD g 0 0
  unfold nX2_insert at h
  refine z_aload_n (pc := 0) hG 0 rfl rfl dX2_insert_0 ?_
  refine z_geti (pc := 1) hG zc_X2 inX2 DL_34 5 rfl (by decide) rfl w708 dX2_insert_1 ?_
  refine z_istore_n (pc := 4) (ls' := [(3, .int (g.1 34 5)), (0, .ref 34), (1, .int a1), (2, .int a2)]) hG [0, 1, 2, 3] rfl (by decide) rfl dX2_insert_4 ?_
  refine z_sub (ls' := [(0, .ref 34), (1, .int a1), (2, .int a2), (3, .int (g.1 34 5))]) [1, 2, 3, 0] rfl ?_
  exact kwX2_insert_5 hG hl0 a1 a2 hk ((g.1 34 5), g) h
noncomputable def wX2_gather_26 (a1 : Int32) (a2 : Int32) (a3 : Int32) (s : (Int32 × zS)) : Option ((Int32 × zS) ⊕ zS) :=
  if (s.2.1 31 1) ≤ s.1 then (zex (some (s.2))) else (if a3 = (-1 : Int32) then (zex (some (s.2))) else (if s.1 = a1 then (some (.inl ((s.1 + (1 : Int32)), s.2))) else (zchk (zin s.1 40) ((nX2_gives a2 (s.2.1 32 s.1.toNatClampNeg) a3 s.2).bind fun v3 => if v3 = 0 then (some (.inl ((s.1 + (1 : Int32)), s.2))) else (zchk (zin s.1 40) ((nX6_farApart a2 (s.2.1 32 s.1.toNatClampNeg) a3 s.2).bind fun v4 => (nX2_insert s.1 v4 s.2).bind fun v5 => some (.inl ((s.1 + (1 : Int32)), v5))))))))
noncomputable def nX2_gather (a1 : Int32) (g : zS) : Option zS :=
  (nX8_codeOf a1 g).bind fun v1 => (nX5_leastSet v1 g).bind fun v2 => wh (wX2_gather_26 a1 v1 v2) ((0 : Int32), (zi g 34 5 (0 : Int32)))
def qX2_gather_26 (x : zXx) (a1 : Int32) (a2 : Int32) (a3 : Int32) (o : (Int32 × zS) ⊕ zS) : Prop := match o with
  | .inl s => zK x 4 26 [(0, .ref 34), (1, .int a1), (2, .int a2), (3, .int a3), (4, .int s.1)] [] zD s.2 0 0
  | .inr r => ztg x = (.inl none, zD, r)
set_option maxHeartbeats 60000 in
theorem kwX2_gather_26 {x : zXx} (hG : zG x cX2_gather 5 RX2 ((Option.none : Option Jvm.ClassFile.FieldType))) (hl0 : (zl0 x).flags = flags0) (a1 : Int32) (a2 : Int32) (a3 : Int32) {o : zS} (hk : ztg x = (.inl none, zD, o)) : ∀ s : (Int32 × zS), wh (wX2_gather_26 a1 a2 a3) s = some o → zK x 4 26 [(0, .ref 34), (1, .int a1), (2, .int a2), (3, .int a3), (4, .int s.1)] [] zD s.2 0 0 := by
  refine wh_ind (fun s : (Int32 × zS) => zK x 4 26 [(0, .ref 34), (1, .int a1), (2, .int a2), (3, .int a3), (4, .int s.1)] [] zD s.2 0 0) (fun s o h hk2 => ?_)
  replace hk : qX2_gather_26 x a1 a2 a3 o := by
    cases o with
    | inl s => exact hk2
    | inr r => subst hk2; exact hk
  clear hk2
  unfold wX2_gather_26 at h
  refine z_iload (pc := 26) hG 4 rfl dX2_gather_26 ?_
  refine z_aload_n (pc := 28) hG 0 rfl rfl dX2_gather_28 ?_
  refine z_getr (pc := 29) hG zc_X2 inX2 DL_34 2 rfl (by decide) rfl w705 dX2_gather_29 ?_
  refine z_geti (pc := 32) hG zc_X8 inX8 DL_31 1 rfl (by decide) rfl w684 dX2_gather_32 ?_
  refine z_icmp_ge (pc := 35) (tgt := 99) hG dX2_gather_35 rfl (fun hc => ?_) (fun hc => ?_)
  · replace h := zif_t hc h
    replace h := zex_some h
    obtain ⟨o, h, rfl⟩ := h
    obtain rfl := Option.some.inj h
    exact z_vret (pc := 99) hG rfl hk dX2_gather_99
  · replace h := zif_f hc h
    refine z_iload_n (pc := 38) hG 3 rfl rfl dX2_gather_38 ?_
    refine z_iconst (pc := 39) hG kc_m1 dX2_gather_39 ?_
    refine z_icmp_eq (pc := 40) (tgt := 99) hG dX2_gather_40 rfl (fun hc => ?_) (fun hc => ?_)
    · replace h := zif_t hc h
      replace h := zex_some h
      obtain ⟨o, h, rfl⟩ := h
      obtain rfl := Option.some.inj h
      exact z_vret (pc := 99) hG rfl hk dX2_gather_99
    · replace h := zif_f hc h
      refine z_iload (pc := 43) hG 4 rfl dX2_gather_43 ?_
      refine z_iload_n (pc := 45) hG 1 rfl rfl dX2_gather_45 ?_
      refine z_icmp_eq (pc := 46) (tgt := 93) hG dX2_gather_46 rfl (fun hc => ?_) (fun hc => ?_)
      · replace h := zif_t hc h
        refine z_iinc (pc := 93) (ls' := [(4, .int (s.1 + (1 : Int32))), (0, .ref 34), (1, .int a1), (2, .int a2), (3, .int a3)]) hG 4 rfl [0, 1, 2, 3, 4] (ki_1 _) (by decide) rfl dX2_gather_93 ?_
        refine z_goto (pc := 96) (tgt := 26) hG dX2_gather_96 rfl ?_
        obtain rfl := Option.some.inj h
        refine z_sub (ls' := [(0, .ref 34), (1, .int a1), (2, .int a2), (3, .int a3), (4, .int (s.1 + (1 : Int32)))]) [1, 2, 3, 4, 0] rfl ?_
        exact hk
      · replace h := zif_f hc h
        refine z_aload_n (pc := 49) hG 0 rfl rfl dX2_gather_49 ?_
        refine z_iload_n (pc := 50) hG 2 rfl rfl dX2_gather_50 ?_
        refine z_aload_n (pc := 51) hG 0 rfl rfl dX2_gather_51 ?_
        refine z_getr (pc := 52) hG zc_X2 inX2 DL_34 2 rfl (by decide) rfl w705 dX2_gather_52 ?_
        refine z_getr (pc := 55) hG zc_X8 inX8 DL_31 0 rfl (by decide) rfl w681 dX2_gather_55 ?_
        refine z_iload (pc := 58) hG 4 rfl dX2_gather_58 ?_
        replace h := zchk_some h
        obtain ⟨hc, h⟩ := h
        refine z_iald (pc := 60) hG DL_32 (zin_in hc) dX2_gather_60 ?_
        refine z_iload_n (pc := 61) hG 3 rfl rfl dX2_gather_61 ?_
        replace h := zbind h
        obtain ⟨v3, hv3, h⟩ := h
        refine z_cvI (pc := 62) (A' := 0) (B' := 0) hG [.int a2, .int (s.2.1 32 s.1.toNatClampNeg), .int a3] [] zc_X2 DL_34 (tX2_gives hl0 a2 (s.2.1 32 s.1.toNatClampNeg) a3 s.2 hv3) zy_X2_gives ⟨w437, wp19⟩ w435 dX2_gather_62 rfl (Nat.le_of_ble_eq_true rfl) rfl rfl rfl (Nat.le_of_ble_eq_true rfl) rfl ?_
        refine z_if_eq (pc := 65) (tgt := 93) hG dX2_gather_65 rfl (fun hc => ?_) (fun hc => ?_)
        · replace h := zif_t hc h
          refine z_iinc (pc := 93) (ls' := [(4, .int (s.1 + (1 : Int32))), (0, .ref 34), (1, .int a1), (2, .int a2), (3, .int a3)]) hG 4 rfl [0, 1, 2, 3, 4] (ki_1 _) (by decide) rfl dX2_gather_93 ?_
          refine z_goto (pc := 96) (tgt := 26) hG dX2_gather_96 rfl ?_
          obtain rfl := Option.some.inj h
          refine z_sub (ls' := [(0, .ref 34), (1, .int a1), (2, .int a2), (3, .int a3), (4, .int (s.1 + (1 : Int32)))]) [1, 2, 3, 4, 0] rfl ?_
          exact hk
        · replace h := zif_f hc h
          refine z_aload_n (pc := 68) hG 0 rfl rfl dX2_gather_68 ?_
          refine z_iload (pc := 69) hG 4 rfl dX2_gather_69 ?_
          refine z_aload_n (pc := 71) hG 0 rfl rfl dX2_gather_71 ?_
          refine z_getr (pc := 72) hG zc_X2 inX2 DL_34 0 rfl (by decide) rfl w703 dX2_gather_72 ?_
          refine z_iload_n (pc := 75) hG 2 rfl rfl dX2_gather_75 ?_
          refine z_aload_n (pc := 76) hG 0 rfl rfl dX2_gather_76 ?_
          refine z_getr (pc := 77) hG zc_X2 inX2 DL_34 2 rfl (by decide) rfl w705 dX2_gather_77 ?_
          refine z_getr (pc := 80) hG zc_X8 inX8 DL_31 0 rfl (by decide) rfl w681 dX2_gather_80 ?_
          refine z_iload (pc := 83) hG 4 rfl dX2_gather_83 ?_
          replace h := zchk_some h
          obtain ⟨hc, h⟩ := h
          refine z_iald (pc := 85) hG DL_32 (zin_in hc) dX2_gather_85 ?_
          refine z_iload_n (pc := 86) hG 3 rfl rfl dX2_gather_86 ?_
          replace h := zbind h
          obtain ⟨v4, hv4, h⟩ := h
          refine z_cvI (pc := 87) (A' := 0) (B' := 0) hG [.int a2, .int (s.2.1 32 s.1.toNatClampNeg), .int a3] [.int s.1, .ref 34] zc_X6 DL_3 (tX6_farApart hl0 a2 (s.2.1 32 s.1.toNatClampNeg) a3 s.2 hv4) zy_X6_farApart ⟨w452, w453⟩ w451 dX2_gather_87 rfl (Nat.le_of_ble_eq_true rfl) rfl rfl rfl (Nat.le_of_ble_eq_true rfl) rfl ?_
          replace h := zbind h
          obtain ⟨v5, hv5, h⟩ := h
          refine z_cvV (pc := 90) (A' := 0) (B' := 0) hG [.int s.1, .int v4] [] zc_X2 DL_34 (tX2_insert hl0 s.1 v4 s.2 hv5) zy_X2_insert ⟨w465, wp22⟩ w463 dX2_gather_90 rfl (Nat.le_of_ble_eq_true rfl) rfl rfl rfl (Nat.le_of_ble_eq_true rfl) rfl ?_
          refine z_iinc (pc := 93) (ls' := [(4, .int (s.1 + (1 : Int32))), (0, .ref 34), (1, .int a1), (2, .int a2), (3, .int a3)]) hG 4 rfl [0, 1, 2, 3, 4] (ki_1 _) (by decide) rfl dX2_gather_93 ?_
          refine z_goto (pc := 96) (tgt := 26) hG dX2_gather_96 rfl ?_
          obtain rfl := Option.some.inj h
          refine z_sub (ls' := [(0, .ref 34), (1, .int a1), (2, .int a2), (3, .int a3), (4, .int (s.1 + (1 : Int32)))]) [1, 2, 3, 4, 0] rfl ?_
          exact hk
set_option maxHeartbeats 60000 in
theorem tX2_gather {l : Launch} (hl0 : l.flags = flags0) (a1 : Int32) (g : zS) {r : zS} (h : nX2_gather a1 g = some r) : zC l yX2_gather cX2_gather 5 ((Option.none : Option Jvm.ClassFile.FieldType)) 4 0 0 [.ref 34, .int a1] zD g (.inl none, zD, r) := by
  refine zC_of hl0 rfl (Nat.le_of_ble_eq_true rfl) (fun x hG hxl hk _ => ?_)
  subst hxl
  show zK x 4 0 [(0, .ref 34), (1, .int a1)] [] zD g 0 0
  unfold nX2_gather at h
  refine z_aload_n (pc := 0) hG 0 rfl rfl dX2_gather_0 ?_
  refine z_getr (pc := 1) hG zc_X2 inX2 DL_34 2 rfl (by decide) rfl w705 dX2_gather_1 ?_
  refine z_iload_n (pc := 4) hG 1 rfl rfl dX2_gather_4 ?_
  replace h := zbind h
  obtain ⟨v1, hv1, h⟩ := h
  refine z_cvI (pc := 5) (A' := 0) (B' := 0) hG [.int a1] [] zc_X8 DL_31 (tX8_codeOf hl0 a1 g hv1) zy_X8_codeOf ⟨w272, w273⟩ w417 dX2_gather_5 rfl (Nat.le_of_ble_eq_true rfl) rfl rfl rfl (Nat.le_of_ble_eq_true rfl) rfl ?_
  refine z_istore_n (pc := 8) (ls' := [(2, .int v1), (0, .ref 34), (1, .int a1)]) hG [0, 1, 2] rfl (by decide) rfl dX2_gather_8 ?_
  refine z_aload_n (pc := 9) hG 1 rfl rfl dX2_gather_9 ?_
  refine z_getr (pc := 10) hG zc_X2 inX2 DL_34 1 rfl (by decide) rfl w704 dX2_gather_10 ?_
  refine z_iload_n (pc := 13) hG 0 rfl rfl dX2_gather_13 ?_
  replace h := zbind h
  obtain ⟨v2, hv2, h⟩ := h
  refine z_cvI (pc := 14) (A' := 0) (B' := 0) hG [.int v1] [] zc_X5 DL_20 (tX5_leastSet hl0 v1 g hv2) zy_X5_leastSet ⟨w352, w353⟩ w422 dX2_gather_14 rfl (Nat.le_of_ble_eq_true rfl) rfl rfl rfl (Nat.le_of_ble_eq_true rfl) rfl ?_
  refine z_istore_n (pc := 17) (ls' := [(3, .int v2), (2, .int v1), (0, .ref 34), (1, .int a1)]) hG [0, 1, 2, 3] rfl (by decide) rfl dX2_gather_17 ?_
  refine z_aload_n (pc := 18) hG 2 rfl rfl dX2_gather_18 ?_
  refine z_iconst (pc := 19) hG kc_0 dX2_gather_19 ?_
  refine z_puti (pc := 20) hG zc_X2 inX2 tyX2 tyX2_ok nmX2 DL_34 5 rfl (by decide) rfl w708 rfl rfl rfl dX2_gather_20 ?_
  refine z_iconst (pc := 23) hG kc_0 dX2_gather_23 ?_
  refine z_istore (pc := 24) (ls' := [(4, .int (0 : Int32)), (3, .int v2), (2, .int v1), (0, .ref 34), (1, .int a1)]) hG [0, 1, 2, 3, 4] (by decide) rfl dX2_gather_24 ?_
  refine z_sub (ls' := [(0, .ref 34), (1, .int a1), (2, .int v1), (3, .int v2), (4, .int (0 : Int32))]) [3, 4, 2, 1, 0] rfl ?_
  exact kwX2_gather_26 hG hl0 a1 v1 v2 hk ((0 : Int32), (zi g 34 5 (0 : Int32))) h
noncomputable def wX2_countSame_5 (a1 : Int32) (a2 : Int32) (g : zS) (s : (Int32 × Int32)) : Option ((Int32 × Int32) ⊕ Int32) :=
  if (g.1 34 5) ≤ s.2 then (zex (some (s.1))) else (zchk (zin s.2 40) ((nX8_codeOf (g.1 35 s.2.toNatClampNeg) g).bind fun v1 => (nX1_part v1 a2).bind fun v2 => if v2 = a1 then (some (.inl ((s.1 + (1 : Int32)), (s.2 + (1 : Int32))))) else (some (.inl (s.1, (s.2 + (1 : Int32)))))))
noncomputable def nX2_countSame (a1 : Int32) (a2 : Int32) (g : zS) : Option Int32 :=
  wh (wX2_countSame_5 a1 a2 g) ((0 : Int32), (0 : Int32))
def qX2_countSame_5 (x : zXx) (a1 : Int32) (a2 : Int32) (g : zS) (o : (Int32 × Int32) ⊕ Int32) : Prop := match o with
  | .inl s => zK x 1 5 [(0, .ref 34), (1, .int a1), (2, .int a2), (3, .int s.1), (4, .int s.2)] [] zD g 0 0
  | .inr r => ztg x = (.inl (some (.int r)), zD, g)
set_option maxHeartbeats 60000 in
theorem kwX2_countSame_5 {x : zXx} (hG : zG x cX2_countSame 5 RX2 ((Option.some Jvm.ClassFile.FieldType.int))) (hl0 : (zl0 x).flags = flags0) (a1 : Int32) (a2 : Int32) (g : zS) {o : Int32} (hk : ztg x = (.inl (some (.int o)), zD, g)) : ∀ s : (Int32 × Int32), wh (wX2_countSame_5 a1 a2 g) s = some o → zK x 1 5 [(0, .ref 34), (1, .int a1), (2, .int a2), (3, .int s.1), (4, .int s.2)] [] zD g 0 0 := by
  refine wh_ind (fun s : (Int32 × Int32) => zK x 1 5 [(0, .ref 34), (1, .int a1), (2, .int a2), (3, .int s.1), (4, .int s.2)] [] zD g 0 0) (fun s o h hk2 => ?_)
  replace hk : qX2_countSame_5 x a1 a2 g o := by
    cases o with
    | inl s => exact hk2
    | inr r => subst hk2; exact hk
  clear hk2
  unfold wX2_countSame_5 at h
  refine z_iload (pc := 5) hG 4 rfl dX2_countSame_5 ?_
  refine z_aload_n (pc := 7) hG 0 rfl rfl dX2_countSame_7 ?_
  refine z_geti (pc := 8) hG zc_X2 inX2 DL_34 5 rfl (by decide) rfl w708 dX2_countSame_8 ?_
  refine z_icmp_ge (pc := 11) (tgt := 45) hG dX2_countSame_11 rfl (fun hc => ?_) (fun hc => ?_)
  · replace h := zif_t hc h
    replace h := zex_some h
    obtain ⟨o, h, rfl⟩ := h
    refine z_iload_n (pc := 45) hG 3 rfl rfl dX2_countSame_45 ?_
    obtain rfl := Option.some.inj h
    exact z_iret (pc := 46) hG rfl rfl hk dX2_countSame_46
  · replace h := zif_f hc h
    refine z_aload_n (pc := 14) hG 0 rfl rfl dX2_countSame_14 ?_
    refine z_getr (pc := 15) hG zc_X2 inX2 DL_34 2 rfl (by decide) rfl w705 dX2_countSame_15 ?_
    refine z_aload_n (pc := 18) hG 0 rfl rfl dX2_countSame_18 ?_
    refine z_getr (pc := 19) hG zc_X2 inX2 DL_34 3 rfl (by decide) rfl w706 dX2_countSame_19 ?_
    refine z_iload (pc := 22) hG 4 rfl dX2_countSame_22 ?_
    replace h := zchk_some h
    obtain ⟨hc, h⟩ := h
    refine z_iald (pc := 24) hG DL_35 (zin_in hc) dX2_countSame_24 ?_
    replace h := zbind h
    obtain ⟨v1, hv1, h⟩ := h
    refine z_cvI (pc := 25) (A' := 0) (B' := 0) hG [.int (g.1 35 s.2.toNatClampNeg)] [] zc_X8 DL_31 (tX8_codeOf hl0 (g.1 35 s.2.toNatClampNeg) g hv1) zy_X8_codeOf ⟨w272, w273⟩ w417 dX2_countSame_25 rfl (Nat.le_of_ble_eq_true rfl) rfl rfl rfl (Nat.le_of_ble_eq_true rfl) rfl ?_
    refine z_iload_n (pc := 28) hG 2 rfl rfl dX2_countSame_28 ?_
    replace h := zbind h
    obtain ⟨v2, hv2, h⟩ := h
    refine z_csI (pc := 29) (A' := 0) (B' := 0) hG [.int v1, .int a2] [] (tX1_part hl0 v1 a2 g hv2) zy_X1_part w449 w471 dX2_countSame_29 rfl (Nat.le_of_ble_eq_true rfl) rfl rfl rfl (Nat.le_of_ble_eq_true rfl) rfl ?_
    refine z_iload_n (pc := 32) hG 1 rfl rfl dX2_countSame_32 ?_
    refine z_icmp_ne (pc := 33) (tgt := 39) hG dX2_countSame_33 rfl (fun hc => ?_) (fun hc => ?_)
    · replace h := zif_f hc h
      refine z_iinc (pc := 39) (ls' := [(4, .int (s.2 + (1 : Int32))), (0, .ref 34), (1, .int a1), (2, .int a2), (3, .int s.1)]) hG 4 rfl [0, 1, 2, 3, 4] (ki_1 _) (by decide) rfl dX2_countSame_39 ?_
      refine z_goto (pc := 42) (tgt := 5) hG dX2_countSame_42 rfl ?_
      obtain rfl := Option.some.inj h
      refine z_sub (ls' := [(0, .ref 34), (1, .int a1), (2, .int a2), (3, .int s.1), (4, .int (s.2 + (1 : Int32)))]) [1, 2, 3, 4, 0] rfl ?_
      exact hk
    · replace h := zif_t hc h
      refine z_iinc (pc := 36) (ls' := [(3, .int (s.1 + (1 : Int32))), (0, .ref 34), (1, .int a1), (2, .int a2), (4, .int s.2)]) hG 3 rfl [0, 1, 2, 3, 4] (ki_1 _) (by decide) rfl dX2_countSame_36 ?_
      refine z_iinc (pc := 39) (ls' := [(4, .int (s.2 + (1 : Int32))), (3, .int (s.1 + (1 : Int32))), (0, .ref 34), (1, .int a1), (2, .int a2)]) hG 4 rfl [0, 1, 2, 3, 4] (ki_1 _) (by decide) rfl dX2_countSame_39 ?_
      refine z_goto (pc := 42) (tgt := 5) hG dX2_countSame_42 rfl ?_
      obtain rfl := Option.some.inj h
      refine z_sub (ls' := [(0, .ref 34), (1, .int a1), (2, .int a2), (3, .int (s.1 + (1 : Int32))), (4, .int (s.2 + (1 : Int32)))]) [2, 3, 4, 1, 0] rfl ?_
      exact hk
set_option maxHeartbeats 60000 in
theorem tX2_countSame {l : Launch} (hl0 : l.flags = flags0) (a1 : Int32) (a2 : Int32) (g : zS) {r : Int32} (h : nX2_countSame a1 a2 g = some r) : zC l yX2_countSame cX2_countSame 5 ((Option.some Jvm.ClassFile.FieldType.int)) 1 0 0 [.ref 34, .int a1, .int a2] zD g (.inl (some (.int r)), zD, g) := by
  refine zC_of hl0 rfl (Nat.le_of_ble_eq_true rfl) (fun x hG hxl hk _ => ?_)
  subst hxl
  show zK x 1 0 [(0, .ref 34), (1, .int a1), (2, .int a2)] [] zD g 0 0
  unfold nX2_countSame at h
  refine z_iconst (pc := 0) hG kc_0 dX2_countSame_0 ?_
  refine z_istore_n (pc := 1) (ls' := [(3, .int (0 : Int32)), (0, .ref 34), (1, .int a1), (2, .int a2)]) hG [0, 1, 2, 3] rfl (by decide) rfl dX2_countSame_1 ?_
  refine z_iconst (pc := 2) hG kc_0 dX2_countSame_2 ?_
  refine z_istore (pc := 3) (ls' := [(4, .int (0 : Int32)), (3, .int (0 : Int32)), (0, .ref 34), (1, .int a1), (2, .int a2)]) hG [0, 1, 2, 3, 4] (by decide) rfl dX2_countSame_3 ?_
  refine z_sub (ls' := [(0, .ref 34), (1, .int a1), (2, .int a2), (3, .int (0 : Int32)), (4, .int (0 : Int32))]) [2, 3, 4, 1, 0] rfl ?_
  exact kwX2_countSame_5 hG hl0 a1 a2 g hk ((0 : Int32), (0 : Int32)) h
noncomputable def wX2_commonest_12 (a1 : Int32) (g : zS) (s : (Int32 × Int32 × Int32)) : Option ((Int32 × Int32 × Int32) ⊕ Int32) :=
  if (g.1 34 5) ≤ s.2.2 then (zex (some (s.1))) else (zchk (zin s.2.2 40) ((nX8_codeOf (g.1 35 s.2.2.toNatClampNeg) g).bind fun v1 => (nX1_part v1 a1).bind fun v2 => (nX2_countSame v2 a1 g).bind fun v3 => if v3 ≤ s.2.1 then (some (.inl (s.1, s.2.1, (s.2.2 + (1 : Int32))))) else (zchk (zin s.2.2 40) (some (.inl ((g.1 35 s.2.2.toNatClampNeg), v3, (s.2.2 + (1 : Int32))))))))
noncomputable def nX2_commonest (a1 : Int32) (g : zS) : Option Int32 :=
  zchk (zin (0 : Int32) 40) (wh (wX2_commonest_12 a1 g) ((g.1 35 (0 : Int32).toNatClampNeg), (0 : Int32), (0 : Int32)))
def qX2_commonest_12 (x : zXx) (a1 : Int32) (g : zS) (o : (Int32 × Int32 × Int32) ⊕ Int32) : Prop := match o with
  | .inl s => zK x 2 12 [(0, .ref 34), (1, .int a1), (2, .int s.1), (3, .int s.2.1), (4, .int s.2.2)] [] zD g 0 0
  | .inr r => ztg x = (.inl (some (.int r)), zD, g)
set_option maxHeartbeats 60000 in
theorem kwX2_commonest_12 {x : zXx} (hG : zG x cX2_commonest 6 RX2 ((Option.some Jvm.ClassFile.FieldType.int))) (hl0 : (zl0 x).flags = flags0) (a1 : Int32) (g : zS) {o : Int32} (hk : ztg x = (.inl (some (.int o)), zD, g)) : ∀ s : (Int32 × Int32 × Int32), wh (wX2_commonest_12 a1 g) s = some o → zK x 2 12 [(0, .ref 34), (1, .int a1), (2, .int s.1), (3, .int s.2.1), (4, .int s.2.2)] [] zD g 0 0 := by
  refine wh_ind (fun s : (Int32 × Int32 × Int32) => zK x 2 12 [(0, .ref 34), (1, .int a1), (2, .int s.1), (3, .int s.2.1), (4, .int s.2.2)] [] zD g 0 0) (fun s o h hk2 => ?_)
  replace hk : qX2_commonest_12 x a1 g o := by
    cases o with
    | inl s => exact hk2
    | inr r => subst hk2; exact hk
  clear hk2
  unfold wX2_commonest_12 at h
  refine z_iload (pc := 12) hG 4 rfl dX2_commonest_12 ?_
  refine z_aload_n (pc := 14) hG 0 rfl rfl dX2_commonest_14 ?_
  refine z_geti (pc := 15) hG zc_X2 inX2 DL_34 5 rfl (by decide) rfl w708 dX2_commonest_15 ?_
  refine z_icmp_ge (pc := 18) (tgt := 69) hG dX2_commonest_18 rfl (fun hc => ?_) (fun hc => ?_)
  · replace h := zif_t hc h
    replace h := zex_some h
    obtain ⟨o, h, rfl⟩ := h
    refine z_iload_n (pc := 69) hG 2 rfl rfl dX2_commonest_69 ?_
    obtain rfl := Option.some.inj h
    exact z_iret (pc := 70) hG rfl rfl hk dX2_commonest_70
  · replace h := zif_f hc h
    refine z_aload_n (pc := 21) hG 0 rfl rfl dX2_commonest_21 ?_
    refine z_aload_n (pc := 22) hG 0 rfl rfl dX2_commonest_22 ?_
    refine z_getr (pc := 23) hG zc_X2 inX2 DL_34 2 rfl (by decide) rfl w705 dX2_commonest_23 ?_
    refine z_aload_n (pc := 26) hG 0 rfl rfl dX2_commonest_26 ?_
    refine z_getr (pc := 27) hG zc_X2 inX2 DL_34 3 rfl (by decide) rfl w706 dX2_commonest_27 ?_
    refine z_iload (pc := 30) hG 4 rfl dX2_commonest_30 ?_
    replace h := zchk_some h
    obtain ⟨hc, h⟩ := h
    refine z_iald (pc := 32) hG DL_35 (zin_in hc) dX2_commonest_32 ?_
    replace h := zbind h
    obtain ⟨v1, hv1, h⟩ := h
    refine z_cvI (pc := 33) (A' := 0) (B' := 0) hG [.int (g.1 35 s.2.2.toNatClampNeg)] [.ref 34] zc_X8 DL_31 (tX8_codeOf hl0 (g.1 35 s.2.2.toNatClampNeg) g hv1) zy_X8_codeOf ⟨w272, w273⟩ w417 dX2_commonest_33 rfl (Nat.le_of_ble_eq_true rfl) rfl rfl rfl (Nat.le_of_ble_eq_true rfl) rfl ?_
    refine z_iload_n (pc := 36) hG 1 rfl rfl dX2_commonest_36 ?_
    replace h := zbind h
    obtain ⟨v2, hv2, h⟩ := h
    refine z_csI (pc := 37) (A' := 0) (B' := 0) hG [.int v1, .int a1] [.ref 34] (tX1_part hl0 v1 a1 g hv2) zy_X1_part w449 w471 dX2_commonest_37 rfl (Nat.le_of_ble_eq_true rfl) rfl rfl rfl (Nat.le_of_ble_eq_true rfl) rfl ?_
    refine z_iload_n (pc := 40) hG 1 rfl rfl dX2_commonest_40 ?_
    replace h := zbind h
    obtain ⟨v3, hv3, h⟩ := h
    refine z_cvI (pc := 41) (A' := 0) (B' := 0) hG [.int v2, .int a1] [] zc_X2 DL_34 (tX2_countSame hl0 v2 a1 g hv3) zy_X2_countSame ⟨w474, wp24⟩ w472 dX2_commonest_41 rfl (Nat.le_of_ble_eq_true rfl) rfl rfl rfl (Nat.le_of_ble_eq_true rfl) rfl ?_
    refine z_istore (pc := 44) (ls' := [(5, .int v3), (0, .ref 34), (1, .int a1), (2, .int s.1), (3, .int s.2.1), (4, .int s.2.2)]) hG [0, 1, 2, 3, 4, 5] (by decide) rfl dX2_commonest_44 ?_
    refine z_iload (pc := 46) hG 0 rfl dX2_commonest_46 ?_
    refine z_iload_n (pc := 48) hG 4 rfl rfl dX2_commonest_48 ?_
    refine z_icmp_le (pc := 49) (tgt := 63) hG dX2_commonest_49 rfl (fun hc => ?_) (fun hc => ?_)
    · replace h := zif_t hc h
      refine z_iinc (pc := 63) (ls' := [(4, .int (s.2.2 + (1 : Int32))), (5, .int v3), (0, .ref 34), (1, .int a1), (2, .int s.1), (3, .int s.2.1)]) hG 5 rfl [0, 1, 2, 3, 4, 5] (ki_1 _) (by decide) rfl dX2_commonest_63 ?_
      refine z_goto (pc := 66) (tgt := 12) hG dX2_commonest_66 rfl ?_
      obtain rfl := Option.some.inj h
      refine z_sub (ls' := [(0, .ref 34), (1, .int a1), (2, .int s.1), (3, .int s.2.1), (4, .int (s.2.2 + (1 : Int32)))]) [2, 3, 4, 5, 0] rfl ?_
      exact hk
    · replace h := zif_f hc h
      refine z_iload (pc := 52) hG 0 rfl dX2_commonest_52 ?_
      refine z_istore_n (pc := 54) (ls' := [(3, .int v3), (5, .int v3), (0, .ref 34), (1, .int a1), (2, .int s.1), (4, .int s.2.2)]) hG [0, 1, 2, 3, 4, 5] rfl (by decide) rfl dX2_commonest_54 ?_
      refine z_aload_n (pc := 55) hG 2 rfl rfl dX2_commonest_55 ?_
      refine z_getr (pc := 56) hG zc_X2 inX2 DL_34 3 rfl (by decide) rfl w706 dX2_commonest_56 ?_
      refine z_iload (pc := 59) hG 5 rfl dX2_commonest_59 ?_
      replace h := zchk_some h
      obtain ⟨hc, h⟩ := h
      refine z_iald (pc := 61) hG DL_35 (zin_in hc) dX2_commonest_61 ?_
      refine z_istore_n (pc := 62) (ls' := [(2, .int (g.1 35 s.2.2.toNatClampNeg)), (3, .int v3), (5, .int v3), (0, .ref 34), (1, .int a1), (4, .int s.2.2)]) hG [0, 1, 2, 3, 4, 5] rfl (by decide) rfl dX2_commonest_62 ?_
      refine z_iinc (pc := 63) (ls' := [(4, .int (s.2.2 + (1 : Int32))), (2, .int (g.1 35 s.2.2.toNatClampNeg)), (3, .int v3), (5, .int v3), (0, .ref 34), (1, .int a1)]) hG 5 rfl [0, 1, 2, 3, 4, 5] (ki_1 _) (by decide) rfl dX2_commonest_63 ?_
      refine z_goto (pc := 66) (tgt := 12) hG dX2_commonest_66 rfl ?_
      obtain rfl := Option.some.inj h
      refine z_sub (ls' := [(0, .ref 34), (1, .int a1), (2, .int (g.1 35 s.2.2.toNatClampNeg)), (3, .int v3), (4, .int (s.2.2 + (1 : Int32)))]) [4, 5, 1, 2, 0] rfl ?_
      exact hk
set_option maxHeartbeats 60000 in
theorem tX2_commonest {l : Launch} (hl0 : l.flags = flags0) (a1 : Int32) (g : zS) {r : Int32} (h : nX2_commonest a1 g = some r) : zC l yX2_commonest cX2_commonest 6 ((Option.some Jvm.ClassFile.FieldType.int)) 2 0 0 [.ref 34, .int a1] zD g (.inl (some (.int r)), zD, g) := by
  refine zC_of hl0 rfl (Nat.le_of_ble_eq_true rfl) (fun x hG hxl hk _ => ?_)
  subst hxl
  show zK x 2 0 [(0, .ref 34), (1, .int a1)] [] zD g 0 0
  unfold nX2_commonest at h
  refine z_aload_n (pc := 0) hG 0 rfl rfl dX2_commonest_0 ?_
  refine z_getr (pc := 1) hG zc_X2 inX2 DL_34 3 rfl (by decide) rfl w706 dX2_commonest_1 ?_
  refine z_iconst (pc := 4) hG kc_0 dX2_commonest_4 ?_
  replace h := zchk_some h
  obtain ⟨hc, h⟩ := h
  refine z_iald (pc := 5) hG DL_35 (zin_in hc) dX2_commonest_5 ?_
  refine z_istore_n (pc := 6) (ls' := [(2, .int (g.1 35 (0 : Int32).toNatClampNeg)), (0, .ref 34), (1, .int a1)]) hG [0, 1, 2] rfl (by decide) rfl dX2_commonest_6 ?_
  refine z_iconst (pc := 7) hG kc_0 dX2_commonest_7 ?_
  refine z_istore_n (pc := 8) (ls' := [(3, .int (0 : Int32)), (2, .int (g.1 35 (0 : Int32).toNatClampNeg)), (0, .ref 34), (1, .int a1)]) hG [0, 1, 2, 3] rfl (by decide) rfl dX2_commonest_8 ?_
  refine z_iconst (pc := 9) hG kc_0 dX2_commonest_9 ?_
  refine z_istore (pc := 10) (ls' := [(4, .int (0 : Int32)), (3, .int (0 : Int32)), (2, .int (g.1 35 (0 : Int32).toNatClampNeg)), (0, .ref 34), (1, .int a1)]) hG [0, 1, 2, 3, 4] (by decide) rfl dX2_commonest_10 ?_
  refine z_sub (ls' := [(0, .ref 34), (1, .int a1), (2, .int (g.1 35 (0 : Int32).toNatClampNeg)), (3, .int (0 : Int32)), (4, .int (0 : Int32))]) [3, 4, 2, 1, 0] rfl ?_
  exact kwX2_commonest_12 hG hl0 a1 g hk ((g.1 35 (0 : Int32).toNatClampNeg), (0 : Int32), (0 : Int32)) h
noncomputable def wX5_lowestOf_2 (a0 : Int32) (s : Int32) : Option (Int32 ⊕ Int32) :=
  if (5 : Int32) ≤ s then (zex (some ((-1 : Int32)))) else (if ((a0 >>> (s &&& 31)) &&& (1 : Int32)) = 0 then (some (.inl (s + (1 : Int32)))) else (zex (some (s))))
noncomputable def nX5_lowestOf (a0 : Int32) : Option Int32 :=
  wh (wX5_lowestOf_2 a0) (0 : Int32)
def qX5_lowestOf_2 (x : zXx) (a0 : Int32) (g : zS) (o : Int32 ⊕ Int32) : Prop := match o with
  | .inl s => zK x 0 2 [(0, .int a0), (1, .int s)] [] zD g 0 0
  | .inr r => ztg x = (.inl (some (.int r)), zD, g)
set_option maxHeartbeats 60000 in
theorem kwX5_lowestOf_2 {x : zXx} (hG : zG x cX5_lowestOf 2 RX5 ((Option.some Jvm.ClassFile.FieldType.int))) (hl0 : (zl0 x).flags = flags0) (a0 : Int32) (g : zS) {o : Int32} (hk : ztg x = (.inl (some (.int o)), zD, g)) : ∀ s : Int32, wh (wX5_lowestOf_2 a0) s = some o → zK x 0 2 [(0, .int a0), (1, .int s)] [] zD g 0 0 := by
  refine wh_ind (fun s : Int32 => zK x 0 2 [(0, .int a0), (1, .int s)] [] zD g 0 0) (fun s o h hk2 => ?_)
  replace hk : qX5_lowestOf_2 x a0 g o := by
    cases o with
    | inl s => exact hk2
    | inr r => subst hk2; exact hk
  clear hk2
  unfold wX5_lowestOf_2 at h
  refine z_iload_n (pc := 2) hG 1 rfl rfl dX5_lowestOf_2 ?_
  refine z_iconst (pc := 3) hG kc_5 dX5_lowestOf_3 ?_
  refine z_icmp_ge (pc := 4) (tgt := 23) hG dX5_lowestOf_4 rfl (fun hc => ?_) (fun hc => ?_)
  · replace h := zif_t hc h
    replace h := zex_some h
    obtain ⟨o, h, rfl⟩ := h
    refine z_iconst (pc := 23) hG kc_m1 dX5_lowestOf_23 ?_
    obtain rfl := Option.some.inj h
    exact z_iret (pc := 24) hG rfl rfl hk dX5_lowestOf_24
  · replace h := zif_f hc h
    refine z_iload_n (pc := 7) hG 0 rfl rfl dX5_lowestOf_7 ?_
    refine z_iload_n (pc := 8) hG 1 rfl rfl dX5_lowestOf_8 ?_
    refine z_ishr (pc := 9) hG dX5_lowestOf_9 ?_
    refine z_iconst (pc := 10) hG kc_1 dX5_lowestOf_10 ?_
    refine z_iand (pc := 11) hG dX5_lowestOf_11 ?_
    refine z_if_eq (pc := 12) (tgt := 17) hG dX5_lowestOf_12 rfl (fun hc => ?_) (fun hc => ?_)
    · replace h := zif_t hc h
      refine z_iinc (pc := 17) (ls' := [(1, .int (s + (1 : Int32))), (0, .int a0)]) hG 1 rfl [0, 1] (ki_1 _) (by decide) rfl dX5_lowestOf_17 ?_
      refine z_goto (pc := 20) (tgt := 2) hG dX5_lowestOf_20 rfl ?_
      obtain rfl := Option.some.inj h
      refine z_sub (ls' := [(0, .int a0), (1, .int (s + (1 : Int32)))]) [1, 0] rfl ?_
      exact hk
    · replace h := zif_f hc h
      replace h := zex_some h
      obtain ⟨o, h, rfl⟩ := h
      refine z_iload_n (pc := 15) hG 1 rfl rfl dX5_lowestOf_15 ?_
      obtain rfl := Option.some.inj h
      exact z_iret (pc := 16) hG rfl rfl hk dX5_lowestOf_16
set_option maxHeartbeats 60000 in
theorem tX5_lowestOf {l : Launch} (hl0 : l.flags = flags0) (a0 : Int32) (g : zS) {r : Int32} (h : nX5_lowestOf a0 = some r) : zC l yX5_lowestOf cX5_lowestOf 2 ((Option.some Jvm.ClassFile.FieldType.int)) 0 0 0 [.int a0] zD g (.inl (some (.int r)), zD, g) := by
  refine zC_of hl0 rfl (Nat.le_of_ble_eq_true rfl) (fun x hG hxl hk _ => ?_)
  subst hxl
  show zK x 0 0 [(0, .int a0)] [] zD g 0 0
  unfold nX5_lowestOf at h
  refine z_iconst (pc := 0) hG kc_0 dX5_lowestOf_0 ?_
  refine z_istore_n (pc := 1) (ls' := [(1, .int (0 : Int32)), (0, .int a0)]) hG [0, 1] rfl (by decide) rfl dX5_lowestOf_1 ?_
  refine z_sub (ls' := [(0, .int a0), (1, .int (0 : Int32))]) [1, 0] rfl ?_
  exact kwX5_lowestOf_2 hG hl0 a0 g hk (0 : Int32) h
noncomputable def wX5_firstWay_16 (g : zS) (s : (Int32 × Int32 × Int32 × Int32)) : Option ((Int32 × Int32 × Int32 × Int32) ⊕ Int32) :=
  if (g.1 3 0) ≤ s.2.2.2 then (zex (some (s.1))) else (if ((s.2.2.1 >>> (s.2.2.2 &&& 31)) &&& (1 : Int32)) = 0 then (some (.inl (s.1, s.2.1, s.2.2.1, (s.2.2.2 + (1 : Int32))))) else ((nX5_curingValues s.2.1 s.2.2.1 s.2.2.2 g).bind fun v2 => (nX5_lowestOf v2).bind fun v3 => if v3 = (-1 : Int32) then (zex (some ((-1 : Int32)))) else ((nX1_withAnswer s.1 s.2.2.2 v3).bind fun v4 => (nX5_editsOfAnswer s.2.2.2 v3 g).bind fun v5 => some (.inl (v4, (s.2.1 &&& v5), (s.2.2.1 &&& (((1 : Int32) <<< (s.2.2.2 &&& 31)) ^^^ (-1 : Int32))), (s.2.2.2 + (1 : Int32)))))))
noncomputable def nX5_firstWay (a1 : Int32) (a2 : Int32) (g : zS) : Option Int32 :=
  (nX5_editsLeft a1 a2 g).bind fun v1 => wh (wX5_firstWay_16 g) (a1, v1, a2, (0 : Int32))
def qX5_firstWay_16 (x : zXx) (g : zS) (o : (Int32 × Int32 × Int32 × Int32) ⊕ Int32) : Prop := match o with
  | .inl s => zK x 2 16 [(0, .ref 20), (3, .int s.1), (4, .int s.2.1), (5, .int s.2.2.1), (6, .int s.2.2.2)] [] zD g 0 0
  | .inr r => ztg x = (.inl (some (.int r)), zD, g)
set_option maxHeartbeats 60000 in
theorem kwX5_firstWay_16 {x : zXx} (hG : zG x cX5_firstWay 8 RX5 ((Option.some Jvm.ClassFile.FieldType.int))) (hl0 : (zl0 x).flags = flags0) (g : zS) {o : Int32} (hk : ztg x = (.inl (some (.int o)), zD, g)) : ∀ s : (Int32 × Int32 × Int32 × Int32), wh (wX5_firstWay_16 g) s = some o → zK x 2 16 [(0, .ref 20), (3, .int s.1), (4, .int s.2.1), (5, .int s.2.2.1), (6, .int s.2.2.2)] [] zD g 0 0 := by
  refine wh_ind (fun s : (Int32 × Int32 × Int32 × Int32) => zK x 2 16 [(0, .ref 20), (3, .int s.1), (4, .int s.2.1), (5, .int s.2.2.1), (6, .int s.2.2.2)] [] zD g 0 0) (fun s o h hk2 => ?_)
  replace hk : qX5_firstWay_16 x g o := by
    cases o with
    | inl s => exact hk2
    | inr r => subst hk2; exact hk
  clear hk2
  unfold wX5_firstWay_16 at h
  refine z_iload (pc := 16) hG 4 rfl dX5_firstWay_16 ?_
  refine z_aload_n (pc := 18) hG 0 rfl rfl dX5_firstWay_18 ?_
  refine z_getr (pc := 19) hG zc_X5 inX5 DL_20 0 rfl (by decide) rfl w619 dX5_firstWay_19 ?_
  refine z_geti (pc := 22) hG zc_X6 inX6 DL_3 0 rfl (by decide) rfl w533 dX5_firstWay_22 ?_
  refine z_icmp_ge (pc := 25) (tgt := 100) hG dX5_firstWay_25 rfl (fun hc => ?_) (fun hc => ?_)
  · replace h := zif_t hc h
    replace h := zex_some h
    obtain ⟨o, h, rfl⟩ := h
    refine z_iload_n (pc := 100) hG 1 rfl rfl dX5_firstWay_100 ?_
    obtain rfl := Option.some.inj h
    exact z_iret (pc := 101) hG rfl rfl hk dX5_firstWay_101
  · replace h := zif_f hc h
    refine z_iload (pc := 28) hG 3 rfl dX5_firstWay_28 ?_
    refine z_iload (pc := 30) hG 4 rfl dX5_firstWay_30 ?_
    refine z_ishr (pc := 32) hG dX5_firstWay_32 ?_
    refine z_iconst (pc := 33) hG kc_1 dX5_firstWay_33 ?_
    refine z_iand (pc := 34) hG dX5_firstWay_34 ?_
    refine z_if_eq (pc := 35) (tgt := 94) hG dX5_firstWay_35 rfl (fun hc => ?_) (fun hc => ?_)
    · replace h := zif_t hc h
      refine z_iinc (pc := 94) (ls' := [(6, .int (s.2.2.2 + (1 : Int32))), (0, .ref 20), (3, .int s.1), (4, .int s.2.1), (5, .int s.2.2.1)]) hG 4 rfl [0, 1, 2, 3, 4] (ki_1 _) (by decide) rfl dX5_firstWay_94 ?_
      refine z_goto (pc := 97) (tgt := 16) hG dX5_firstWay_97 rfl ?_
      obtain rfl := Option.some.inj h
      refine z_sub (ls' := [(0, .ref 20), (3, .int s.1), (4, .int s.2.1), (5, .int s.2.2.1), (6, .int (s.2.2.2 + (1 : Int32)))]) [1, 2, 3, 4, 0] rfl ?_
      exact hk
    · replace h := zif_f hc h
      refine z_aload_n (pc := 38) hG 0 rfl rfl dX5_firstWay_38 ?_
      refine z_iload (pc := 39) hG 2 rfl dX5_firstWay_39 ?_
      refine z_iload (pc := 41) hG 3 rfl dX5_firstWay_41 ?_
      refine z_iload (pc := 43) hG 4 rfl dX5_firstWay_43 ?_
      replace h := zbind h
      obtain ⟨v2, hv2, h⟩ := h
      refine z_cvI (pc := 45) (A' := 0) (B' := 0) hG [.int s.2.1, .int s.2.2.1, .int s.2.2.2] [] zc_X5 DL_20 (tX5_curingValues hl0 s.2.1 s.2.2.1 s.2.2.2 g hv2) zy_X5_curingValues ⟨w388, wp17⟩ w386 dX5_firstWay_45 rfl (Nat.le_of_ble_eq_true rfl) rfl rfl rfl (Nat.le_of_ble_eq_true rfl) rfl ?_
      replace h := zbind h
      obtain ⟨v3, hv3, h⟩ := h
      refine z_csI (pc := 48) (A' := 0) (B' := 0) hG [.int v2] [] (tX5_lowestOf hl0 v2 g hv3) zy_X5_lowestOf w428 w427 dX5_firstWay_48 rfl (Nat.le_of_ble_eq_true rfl) rfl rfl rfl (Nat.le_of_ble_eq_true rfl) rfl ?_
      refine z_istore (pc := 51) (ls' := [(7, .int v3), (0, .ref 20), (3, .int s.1), (4, .int s.2.1), (5, .int s.2.2.1), (6, .int s.2.2.2)]) hG [0, 1, 2, 3, 4, 5] (by decide) rfl dX5_firstWay_51 ?_
      refine z_iload (pc := 53) hG 0 rfl dX5_firstWay_53 ?_
      refine z_iconst (pc := 55) hG kc_m1 dX5_firstWay_55 ?_
      refine z_icmp_ne (pc := 56) (tgt := 61) hG dX5_firstWay_56 rfl (fun hc => ?_) (fun hc => ?_)
      · replace h := zif_f hc h
        refine z_iload_n (pc := 61) hG 2 rfl rfl dX5_firstWay_61 ?_
        refine z_iload (pc := 62) hG 5 rfl dX5_firstWay_62 ?_
        refine z_iload (pc := 64) hG 0 rfl dX5_firstWay_64 ?_
        replace h := zbind h
        obtain ⟨v4, hv4, h⟩ := h
        refine z_csI (pc := 66) (A' := 0) (B' := 0) hG [.int s.1, .int s.2.2.2, .int v3] [] (tX1_withAnswer hl0 s.1 s.2.2.2 v3 g hv4) zy_X1_withAnswer w221 w430 dX5_firstWay_66 rfl (Nat.le_of_ble_eq_true rfl) rfl rfl rfl (Nat.le_of_ble_eq_true rfl) rfl ?_
        refine z_istore_n (pc := 69) (ls' := [(3, .int v4), (7, .int v3), (0, .ref 20), (4, .int s.2.1), (5, .int s.2.2.1), (6, .int s.2.2.2)]) hG [0, 1, 2, 3, 4, 5] rfl (by decide) rfl dX5_firstWay_69 ?_
        refine z_iload (pc := 70) hG 3 rfl dX5_firstWay_70 ?_
        refine z_aload_n (pc := 72) hG 2 rfl rfl dX5_firstWay_72 ?_
        refine z_iload (pc := 73) hG 5 rfl dX5_firstWay_73 ?_
        refine z_iload (pc := 75) hG 1 rfl dX5_firstWay_75 ?_
        replace h := zbind h
        obtain ⟨v5, hv5, h⟩ := h
        refine z_cvI (pc := 77) (A' := 0) (B' := 0) hG [.int s.2.2.2, .int v3] [.int s.2.1] zc_X5 DL_20 (tX5_editsOfAnswer hl0 s.2.2.2 v3 g hv5) zy_X5_editsOfAnswer ⟨w145, w146⟩ w162 dX5_firstWay_77 rfl (Nat.le_of_ble_eq_true rfl) rfl rfl rfl (Nat.le_of_ble_eq_true rfl) rfl ?_
        refine z_iand (pc := 80) hG dX5_firstWay_80 ?_
        refine z_istore (pc := 81) (ls' := [(4, .int (s.2.1 &&& v5)), (3, .int v4), (7, .int v3), (0, .ref 20), (5, .int s.2.2.1), (6, .int s.2.2.2)]) hG [0, 1, 2, 3, 4, 5] (by decide) rfl dX5_firstWay_81 ?_
        refine z_iload (pc := 83) hG 4 rfl dX5_firstWay_83 ?_
        refine z_iconst (pc := 85) hG kc_1 dX5_firstWay_85 ?_
        refine z_iload (pc := 86) hG 5 rfl dX5_firstWay_86 ?_
        refine z_ishl (pc := 88) hG dX5_firstWay_88 ?_
        refine z_iconst (pc := 89) hG kc_m1 dX5_firstWay_89 ?_
        refine z_ixor (pc := 90) hG dX5_firstWay_90 ?_
        refine z_iand (pc := 91) hG dX5_firstWay_91 ?_
        refine z_istore (pc := 92) (ls' := [(5, .int (s.2.2.1 &&& (((1 : Int32) <<< (s.2.2.2 &&& 31)) ^^^ (-1 : Int32)))), (4, .int (s.2.1 &&& v5)), (3, .int v4), (7, .int v3), (0, .ref 20), (6, .int s.2.2.2)]) hG [0, 1, 2, 3, 4, 5] (by decide) rfl dX5_firstWay_92 ?_
        refine z_iinc (pc := 94) (ls' := [(6, .int (s.2.2.2 + (1 : Int32))), (5, .int (s.2.2.1 &&& (((1 : Int32) <<< (s.2.2.2 &&& 31)) ^^^ (-1 : Int32)))), (4, .int (s.2.1 &&& v5)), (3, .int v4), (7, .int v3), (0, .ref 20)]) hG 5 rfl [0, 1, 2, 3, 4, 5] (ki_1 _) (by decide) rfl dX5_firstWay_94 ?_
        refine z_goto (pc := 97) (tgt := 16) hG dX5_firstWay_97 rfl ?_
        obtain rfl := Option.some.inj h
        refine z_sub (ls' := [(0, .ref 20), (3, .int v4), (4, .int (s.2.1 &&& v5)), (5, .int (s.2.2.1 &&& (((1 : Int32) <<< (s.2.2.2 &&& 31)) ^^^ (-1 : Int32)))), (6, .int (s.2.2.2 + (1 : Int32)))]) [5, 3, 2, 1, 0] rfl ?_
        exact hk
      · replace h := zif_t hc h
        replace h := zex_some h
        obtain ⟨o, h, rfl⟩ := h
        refine z_iconst (pc := 59) hG kc_m1 dX5_firstWay_59 ?_
        obtain rfl := Option.some.inj h
        exact z_iret (pc := 60) hG rfl rfl hk dX5_firstWay_60
set_option maxHeartbeats 60000 in
theorem tX5_firstWay {l : Launch} (hl0 : l.flags = flags0) (a1 : Int32) (a2 : Int32) (g : zS) {r : Int32} (h : nX5_firstWay a1 a2 g = some r) : zC l yX5_firstWay cX5_firstWay 8 ((Option.some Jvm.ClassFile.FieldType.int)) 2 0 0 [.ref 20, .int a1, .int a2] zD g (.inl (some (.int r)), zD, g) := by
  refine zC_of hl0 rfl (Nat.le_of_ble_eq_true rfl) (fun x hG hxl hk _ => ?_)
  subst hxl
  show zK x 2 0 [(0, .ref 20), (1, .int a1), (2, .int a2)] [] zD g 0 0
  unfold nX5_firstWay at h
  refine z_iload_n (pc := 0) hG 1 rfl rfl dX5_firstWay_0 ?_
  refine z_istore_n (pc := 1) (ls' := [(3, .int a1), (0, .ref 20), (1, .int a1), (2, .int a2)]) hG [0, 1, 2, 3] rfl (by decide) rfl dX5_firstWay_1 ?_
  refine z_aload_n (pc := 2) hG 1 rfl rfl dX5_firstWay_2 ?_
  refine z_iload_n (pc := 3) hG 2 rfl rfl dX5_firstWay_3 ?_
  refine z_iload_n (pc := 4) hG 3 rfl rfl dX5_firstWay_4 ?_
  replace h := zbind h
  obtain ⟨v1, hv1, h⟩ := h
  refine z_cvI (pc := 5) (A' := 0) (B' := 0) hG [.int a1, .int a2] [] zc_X5 DL_20 (tX5_editsLeft hl0 a1 a2 g hv1) zy_X5_editsLeft ⟨w251, wp10⟩ w249 dX5_firstWay_5 rfl (Nat.le_of_ble_eq_true rfl) rfl rfl rfl (Nat.le_of_ble_eq_true rfl) rfl ?_
  refine z_istore (pc := 8) (ls' := [(4, .int v1), (3, .int a1), (0, .ref 20), (1, .int a1), (2, .int a2)]) hG [0, 1, 2, 3, 4] (by decide) rfl dX5_firstWay_8 ?_
  refine z_iload_n (pc := 10) hG 4 rfl rfl dX5_firstWay_10 ?_
  refine z_istore (pc := 11) (ls' := [(5, .int a2), (4, .int v1), (3, .int a1), (0, .ref 20), (1, .int a1), (2, .int a2)]) hG [0, 1, 2, 3, 4, 5] (by decide) rfl dX5_firstWay_11 ?_
  refine z_iconst (pc := 13) hG kc_0 dX5_firstWay_13 ?_
  refine z_istore (pc := 14) (ls' := [(6, .int (0 : Int32)), (5, .int a2), (4, .int v1), (3, .int a1), (0, .ref 20), (1, .int a1), (2, .int a2)]) hG [0, 1, 2, 3, 4, 5, 6] (by decide) rfl dX5_firstWay_14 ?_
  refine z_sub (ls' := [(0, .ref 20), (3, .int a1), (4, .int v1), (5, .int a2), (6, .int (0 : Int32))]) [4, 3, 2, 1, 0] rfl ?_
  exact kwX5_firstWay_16 hG hl0 g hk (a1, v1, a2, (0 : Int32)) h
noncomputable def jX2_mended_90 (a3 : Int32) (a4 : Int32) (s0 : Int32) (g : zS) : Option (Int32 × zS) :=
  (nX8_codeOf s0 g).bind fun v5 => (nX1_blend a3 v5 a4).bind fun v6 => some ((v6, g))
noncomputable def nX2_mended (a1 : Int32) (a2 : Int32) (g : zS) : Option (Int32 × zS) :=
  (nX8_codeOf a1 g).bind fun v1 => (nX5_isRight v1 g).bind fun v2 => if v2 = 0 then ((nX5_leastSet v1 g).bind fun v3 => if v3 = (-1 : Int32) then (some (((-1 : Int32), g))) else (if a2 = (2 : Int32) then ((nX5_firstWay v1 v3 g).bind fun v8 => some ((v8, g))) else ((nX2_gather a1 g).bind fun v4 => if (v4.1 34 5) = 0 then (some (((-1 : Int32), v4))) else (if a2 = (1 : Int32) then ((nX2_commonest v3 v4).bind fun v7 => jX2_mended_90 v1 v3 v7 v4) else (zchk (zin (0 : Int32) 40) (jX2_mended_90 v1 v3 (v4.1 35 (0 : Int32).toNatClampNeg) v4)))))) else (some ((v1, g)))
set_option maxHeartbeats 60000 in
theorem kjX2_mended_90 {x : zXx} (hG : zG x cX2_mended 6 RX2 ((Option.some Jvm.ClassFile.FieldType.int))) (hl0 : (zl0 x).flags = flags0) (a3 : Int32) (a4 : Int32) (s0 : Int32) (g : zS) {o : (Int32 × zS)} (h : jX2_mended_90 a3 a4 s0 g = some o) (hk : ztg x = (.inl (some (.int o.1)), zD, o.2)) : zK x 5 90 [(0, .ref 34), (3, .int a3), (4, .int a4)] [.int s0] zD g 0 0 := by
  unfold jX2_mended_90 at h
  refine z_istore (pc := 90) (ls' := [(5, .int s0), (0, .ref 34), (3, .int a3), (4, .int a4)]) hG [0, 1, 2, 3] (by decide) rfl dX2_mended_90 ?_
  refine z_iload_n (pc := 92) hG 2 rfl rfl dX2_mended_92 ?_
  refine z_aload_n (pc := 93) hG 1 rfl rfl dX2_mended_93 ?_
  refine z_getr (pc := 94) hG zc_X2 inX2 DL_34 2 rfl (by decide) rfl w705 dX2_mended_94 ?_
  refine z_iload (pc := 97) hG 0 rfl dX2_mended_97 ?_
  replace h := zbind h
  obtain ⟨v5, hv5, h⟩ := h
  refine z_cvI (pc := 99) (A' := 0) (B' := 0) hG [.int s0] [.int a3] zc_X8 DL_31 (tX8_codeOf hl0 s0 g hv5) zy_X8_codeOf ⟨w272, w273⟩ w417 dX2_mended_99 rfl (Nat.le_of_ble_eq_true rfl) rfl rfl rfl (Nat.le_of_ble_eq_true rfl) rfl ?_
  refine z_iload (pc := 102) hG 3 rfl dX2_mended_102 ?_
  replace h := zbind h
  obtain ⟨v6, hv6, h⟩ := h
  refine z_csI (pc := 104) (A' := 0) (B' := 0) hG [.int a3, .int v5, .int a4] [] (tX1_blend hl0 a3 v5 a4 g hv6) zy_X1_blend w446 w445 dX2_mended_104 rfl (Nat.le_of_ble_eq_true rfl) rfl rfl rfl (Nat.le_of_ble_eq_true rfl) rfl ?_
  obtain rfl := Option.some.inj h
  exact z_iret (pc := 107) hG rfl rfl hk dX2_mended_107
set_option maxHeartbeats 60000 in
theorem tX2_mended {l : Launch} (hl0 : l.flags = flags0) (a1 : Int32) (a2 : Int32) (g : zS) {r : (Int32 × zS)} (h : nX2_mended a1 a2 g = some r) : zC l yX2_mended cX2_mended 6 ((Option.some Jvm.ClassFile.FieldType.int)) 5 0 0 [.ref 34, .int a1, .int a2] zD g (.inl (some (.int r.1)), zD, r.2) := by
  refine zC_of hl0 rfl (Nat.le_of_ble_eq_true rfl) (fun x hG hxl hk _ => ?_)
  subst hxl
  show zK x 5 0 [(0, .ref 34), (1, .int a1), (2, .int a2)] [] zD g 0 0
  unfold nX2_mended at h
  refine z_aload_n (pc := 0) hG 0 rfl rfl dX2_mended_0 ?_
  refine z_getr (pc := 1) hG zc_X2 inX2 DL_34 2 rfl (by decide) rfl w705 dX2_mended_1 ?_
  refine z_iload_n (pc := 4) hG 1 rfl rfl dX2_mended_4 ?_
  replace h := zbind h
  obtain ⟨v1, hv1, h⟩ := h
  refine z_cvI (pc := 5) (A' := 0) (B' := 0) hG [.int a1] [] zc_X8 DL_31 (tX8_codeOf hl0 a1 g hv1) zy_X8_codeOf ⟨w272, w273⟩ w417 dX2_mended_5 rfl (Nat.le_of_ble_eq_true rfl) rfl rfl rfl (Nat.le_of_ble_eq_true rfl) rfl ?_
  refine z_istore_n (pc := 8) (ls' := [(3, .int v1), (0, .ref 34), (1, .int a1), (2, .int a2)]) hG [0, 1, 2, 3] rfl (by decide) rfl dX2_mended_8 ?_
  refine z_aload_n (pc := 9) hG 1 rfl rfl dX2_mended_9 ?_
  refine z_getr (pc := 10) hG zc_X2 inX2 DL_34 1 rfl (by decide) rfl w704 dX2_mended_10 ?_
  refine z_iload_n (pc := 13) hG 0 rfl rfl dX2_mended_13 ?_
  replace h := zbind h
  obtain ⟨v2, hv2, h⟩ := h
  refine z_cvI (pc := 14) (A' := 0) (B' := 0) hG [.int v1] [] zc_X5 DL_20 (tX5_isRight hl0 v1 g hv2) zy_X5_isRight ⟨w419, w420⟩ w418 dX2_mended_14 rfl (Nat.le_of_ble_eq_true rfl) rfl rfl rfl (Nat.le_of_ble_eq_true rfl) rfl ?_
  refine z_if_eq (pc := 17) (tgt := 22) hG dX2_mended_17 rfl (fun hc => ?_) (fun hc => ?_)
  · replace h := zif_t hc h
    refine z_aload_n (pc := 22) hG 1 rfl rfl dX2_mended_22 ?_
    refine z_getr (pc := 23) hG zc_X2 inX2 DL_34 1 rfl (by decide) rfl w704 dX2_mended_23 ?_
    refine z_iload_n (pc := 26) hG 0 rfl rfl dX2_mended_26 ?_
    replace h := zbind h
    obtain ⟨v3, hv3, h⟩ := h
    refine z_cvI (pc := 27) (A' := 0) (B' := 0) hG [.int v1] [] zc_X5 DL_20 (tX5_leastSet hl0 v1 g hv3) zy_X5_leastSet ⟨w352, w353⟩ w422 dX2_mended_27 rfl (Nat.le_of_ble_eq_true rfl) rfl rfl rfl (Nat.le_of_ble_eq_true rfl) rfl ?_
    refine z_istore (pc := 30) (ls' := [(4, .int v3), (3, .int v1), (0, .ref 34), (1, .int a1), (2, .int a2)]) hG [0, 1, 2, 3, 4] (by decide) rfl dX2_mended_30 ?_
    refine z_iload (pc := 32) hG 0 rfl dX2_mended_32 ?_
    refine z_iconst (pc := 34) hG kc_m1 dX2_mended_34 ?_
    refine z_icmp_ne (pc := 35) (tgt := 40) hG dX2_mended_35 rfl (fun hc => ?_) (fun hc => ?_)
    · replace h := zif_f hc h
      refine z_iload_n (pc := 40) hG 4 rfl rfl dX2_mended_40 ?_
      refine z_iconst (pc := 41) hG kc_2 dX2_mended_41 ?_
      refine z_icmp_ne (pc := 42) (tgt := 56) hG dX2_mended_42 rfl (fun hc => ?_) (fun hc => ?_)
      · replace h := zif_f hc h
        refine z_aload_n (pc := 56) hG 2 rfl rfl dX2_mended_56 ?_
        refine z_iload_n (pc := 57) hG 3 rfl rfl dX2_mended_57 ?_
        replace h := zbind h
        obtain ⟨v4, hv4, h⟩ := h
        refine z_cvV (pc := 58) (A' := 0) (B' := 0) hG [.int a1] [] zc_X2 DL_34 (tX2_gather hl0 a1 g hv4) zy_X2_gather ⟨w432, w433⟩ w431 dX2_mended_58 rfl (Nat.le_of_ble_eq_true rfl) rfl rfl rfl (Nat.le_of_ble_eq_true rfl) rfl ?_
        refine z_aload_n (pc := 61) hG 2 rfl rfl dX2_mended_61 ?_
        refine z_geti (pc := 62) hG zc_X2 inX2 DL_34 5 rfl (by decide) rfl w708 dX2_mended_62 ?_
        refine z_if_ne (pc := 65) (tgt := 70) hG dX2_mended_65 rfl (fun hc => ?_) (fun hc => ?_)
        · replace h := zif_f hc h
          refine z_iload_n (pc := 70) hG 4 rfl rfl dX2_mended_70 ?_
          refine z_iconst (pc := 71) hG kc_1 dX2_mended_71 ?_
          refine z_icmp_ne (pc := 72) (tgt := 84) hG dX2_mended_72 rfl (fun hc => ?_) (fun hc => ?_)
          · replace h := zif_f hc h
            refine z_aload_n (pc := 84) hG 2 rfl rfl dX2_mended_84 ?_
            refine z_getr (pc := 85) hG zc_X2 inX2 DL_34 3 rfl (by decide) rfl w706 dX2_mended_85 ?_
            refine z_iconst (pc := 88) hG kc_0 dX2_mended_88 ?_
            replace h := zchk_some h
            obtain ⟨hc, h⟩ := h
            refine z_iald (pc := 89) hG DL_35 (zin_in hc) dX2_mended_89 ?_
            refine z_sub (ls' := [(0, .ref 34), (3, .int v1), (4, .int v3)]) [2, 1, 0] rfl ?_
            exact kjX2_mended_90 hG hl0 v1 v3 (v4.1 35 (0 : Int32).toNatClampNeg) v4 h hk
          · replace h := zif_t hc h
            refine z_aload_n (pc := 75) hG 2 rfl rfl dX2_mended_75 ?_
            refine z_iload (pc := 76) hG 0 rfl dX2_mended_76 ?_
            replace h := zbind h
            obtain ⟨v7, hv7, h⟩ := h
            refine z_cvI (pc := 78) (A' := 0) (B' := 0) hG [.int v3] [] zc_X2 DL_34 (tX2_commonest hl0 v3 v4 hv7) zy_X2_commonest ⟨w469, wp23⟩ w467 dX2_mended_78 rfl (Nat.le_of_ble_eq_true rfl) rfl rfl rfl (Nat.le_of_ble_eq_true rfl) rfl ?_
            refine z_goto (pc := 81) (tgt := 90) hG dX2_mended_81 rfl ?_
            refine z_sub (ls' := [(0, .ref 34), (3, .int v1), (4, .int v3)]) [2, 1, 0] rfl ?_
            exact kjX2_mended_90 hG hl0 v1 v3 v7 v4 h hk
        · replace h := zif_t hc h
          refine z_iconst (pc := 68) hG kc_m1 dX2_mended_68 ?_
          obtain rfl := Option.some.inj h
          exact z_iret (pc := 69) hG rfl rfl hk dX2_mended_69
      · replace h := zif_t hc h
        refine z_aload_n (pc := 45) hG 2 rfl rfl dX2_mended_45 ?_
        refine z_getr (pc := 46) hG zc_X2 inX2 DL_34 1 rfl (by decide) rfl w704 dX2_mended_46 ?_
        refine z_iload_n (pc := 49) hG 1 rfl rfl dX2_mended_49 ?_
        refine z_iload (pc := 50) hG 0 rfl dX2_mended_50 ?_
        replace h := zbind h
        obtain ⟨v8, hv8, h⟩ := h
        refine z_cvI (pc := 52) (A' := 0) (B' := 0) hG [.int v1, .int v3] [] zc_X5 DL_20 (tX5_firstWay hl0 v1 v3 g hv8) zy_X5_firstWay ⟨w424, w425⟩ w423 dX2_mended_52 rfl (Nat.le_of_ble_eq_true rfl) rfl rfl rfl (Nat.le_of_ble_eq_true rfl) rfl ?_
        obtain rfl := Option.some.inj h
        exact z_iret (pc := 55) hG rfl rfl hk dX2_mended_55
    · replace h := zif_t hc h
      refine z_iconst (pc := 38) hG kc_m1 dX2_mended_38 ?_
      obtain rfl := Option.some.inj h
      exact z_iret (pc := 39) hG rfl rfl hk dX2_mended_39
  · replace h := zif_f hc h
    refine z_iload_n (pc := 20) hG 0 rfl rfl dX2_mended_20 ?_
    obtain rfl := Option.some.inj h
    exact z_iret (pc := 21) hG rfl rfl hk dX2_mended_21
noncomputable def wX1_toDigits_4 (a0 : Int32) (a1 : Int32) (s : (Int32 × Int32)) : Option ((Int32 × Int32) ⊕ Int32) :=
  if a1 ≤ s.2 then (zex (some (s.1))) else ((nX1_answerAt a0 s.2).bind fun v1 => some (.inl (((s.1 * (10 : Int32)) + v1), (s.2 + (1 : Int32)))))
noncomputable def nX1_toDigits (a0 : Int32) (a1 : Int32) : Option Int32 :=
  wh (wX1_toDigits_4 a0 a1) ((0 : Int32), (0 : Int32))
def qX1_toDigits_4 (x : zXx) (a0 : Int32) (a1 : Int32) (g : zS) (o : (Int32 × Int32) ⊕ Int32) : Prop := match o with
  | .inl s => zK x 1 4 [(0, .int a0), (1, .int a1), (2, .int s.1), (3, .int s.2)] [] zD g 0 0
  | .inr r => ztg x = (.inl (some (.int r)), zD, g)
set_option maxHeartbeats 60000 in
theorem kwX1_toDigits_4 {x : zXx} (hG : zG x cX1_toDigits 4 RX1 ((Option.some Jvm.ClassFile.FieldType.int))) (hl0 : (zl0 x).flags = flags0) (a0 : Int32) (a1 : Int32) (g : zS) {o : Int32} (hk : ztg x = (.inl (some (.int o)), zD, g)) : ∀ s : (Int32 × Int32), wh (wX1_toDigits_4 a0 a1) s = some o → zK x 1 4 [(0, .int a0), (1, .int a1), (2, .int s.1), (3, .int s.2)] [] zD g 0 0 := by
  refine wh_ind (fun s : (Int32 × Int32) => zK x 1 4 [(0, .int a0), (1, .int a1), (2, .int s.1), (3, .int s.2)] [] zD g 0 0) (fun s o h hk2 => ?_)
  replace hk : qX1_toDigits_4 x a0 a1 g o := by
    cases o with
    | inl s => exact hk2
    | inr r => subst hk2; exact hk
  clear hk2
  unfold wX1_toDigits_4 at h
  refine z_iload_n (pc := 4) hG 3 rfl rfl dX1_toDigits_4 ?_
  refine z_iload_n (pc := 5) hG 1 rfl rfl dX1_toDigits_5 ?_
  refine z_icmp_ge (pc := 6) (tgt := 26) hG dX1_toDigits_6 rfl (fun hc => ?_) (fun hc => ?_)
  · replace h := zif_t hc h
    replace h := zex_some h
    obtain ⟨o, h, rfl⟩ := h
    refine z_iload_n (pc := 26) hG 2 rfl rfl dX1_toDigits_26 ?_
    obtain rfl := Option.some.inj h
    exact z_iret (pc := 27) hG rfl rfl hk dX1_toDigits_27
  · replace h := zif_f hc h
    refine z_iload_n (pc := 9) hG 2 rfl rfl dX1_toDigits_9 ?_
    refine z_bipush (pc := 10) hG kb_10 dX1_toDigits_10 ?_
    refine z_imul (pc := 12) hG dX1_toDigits_12 ?_
    refine z_iload_n (pc := 13) hG 0 rfl rfl dX1_toDigits_13 ?_
    refine z_iload_n (pc := 14) hG 3 rfl rfl dX1_toDigits_14 ?_
    replace h := zbind h
    obtain ⟨v1, hv1, h⟩ := h
    refine z_csI (pc := 15) (A' := 0) (B' := 0) hG [.int a0, .int s.2] [.int (s.1 * (10 : Int32))] (tX1_answerAt hl0 a0 s.2 g hv1) zy_X1_answerAt w228 w278 dX1_toDigits_15 rfl (Nat.le_of_ble_eq_true rfl) rfl rfl rfl (Nat.le_of_ble_eq_true rfl) rfl ?_
    refine z_iadd (pc := 18) hG dX1_toDigits_18 ?_
    refine z_istore_n (pc := 19) (ls' := [(2, .int ((s.1 * (10 : Int32)) + v1)), (0, .int a0), (1, .int a1), (3, .int s.2)]) hG [0, 1, 2, 3] rfl (by decide) rfl dX1_toDigits_19 ?_
    refine z_iinc (pc := 20) (ls' := [(3, .int (s.2 + (1 : Int32))), (2, .int ((s.1 * (10 : Int32)) + v1)), (0, .int a0), (1, .int a1)]) hG 3 rfl [0, 1, 2, 3] (ki_1 _) (by decide) rfl dX1_toDigits_20 ?_
    refine z_goto (pc := 23) (tgt := 4) hG dX1_toDigits_23 rfl ?_
    obtain rfl := Option.some.inj h
    refine z_sub (ls' := [(0, .int a0), (1, .int a1), (2, .int ((s.1 * (10 : Int32)) + v1)), (3, .int (s.2 + (1 : Int32)))]) [2, 3, 1, 0] rfl ?_
    exact hk
set_option maxHeartbeats 60000 in
theorem tX1_toDigits {l : Launch} (hl0 : l.flags = flags0) (a0 : Int32) (a1 : Int32) (g : zS) {r : Int32} (h : nX1_toDigits a0 a1 = some r) : zC l yX1_toDigits cX1_toDigits 4 ((Option.some Jvm.ClassFile.FieldType.int)) 1 0 0 [.int a0, .int a1] zD g (.inl (some (.int r)), zD, g) := by
  refine zC_of hl0 rfl (Nat.le_of_ble_eq_true rfl) (fun x hG hxl hk _ => ?_)
  subst hxl
  show zK x 1 0 [(0, .int a0), (1, .int a1)] [] zD g 0 0
  unfold nX1_toDigits at h
  refine z_iconst (pc := 0) hG kc_0 dX1_toDigits_0 ?_
  refine z_istore_n (pc := 1) (ls' := [(2, .int (0 : Int32)), (0, .int a0), (1, .int a1)]) hG [0, 1, 2] rfl (by decide) rfl dX1_toDigits_1 ?_
  refine z_iconst (pc := 2) hG kc_0 dX1_toDigits_2 ?_
  refine z_istore_n (pc := 3) (ls' := [(3, .int (0 : Int32)), (2, .int (0 : Int32)), (0, .int a0), (1, .int a1)]) hG [0, 1, 2, 3] rfl (by decide) rfl dX1_toDigits_3 ?_
  refine z_sub (ls' := [(0, .int a0), (1, .int a1), (2, .int (0 : Int32)), (3, .int (0 : Int32))]) [2, 3, 1, 0] rfl ?_
  exact kwX1_toDigits_4 hG hl0 a0 a1 g hk ((0 : Int32), (0 : Int32)) h
noncomputable def wX4_countRight_4 (g : zS) (s : (Int32 × Int32)) : Option ((Int32 × Int32) ⊕ Int32) :=
  if (g.1 31 1) ≤ s.2 then (zex (some (s.1))) else (zchk (zin s.2 40) ((nX5_isRight (g.1 32 s.2.toNatClampNeg) g).bind fun v1 => if v1 = 0 then (some (.inl (s.1, (s.2 + (1 : Int32))))) else (some (.inl ((s.1 + (1 : Int32)), (s.2 + (1 : Int32)))))))
noncomputable def nX4_countRight (g : zS) : Option Int32 :=
  wh (wX4_countRight_4 g) ((0 : Int32), (0 : Int32))
def qX4_countRight_4 (x : zXx) (g : zS) (o : (Int32 × Int32) ⊕ Int32) : Prop := match o with
  | .inl s => zK x 3 4 [(0, .ref 37), (1, .int s.1), (2, .int s.2)] [] zD g 0 0
  | .inr r => ztg x = (.inl (some (.int r)), zD, g)
set_option maxHeartbeats 60000 in
theorem kwX4_countRight_4 {x : zXx} (hG : zG x cX4_countRight 3 RX4 ((Option.some Jvm.ClassFile.FieldType.int))) (hl0 : (zl0 x).flags = flags0) (g : zS) {o : Int32} (hk : ztg x = (.inl (some (.int o)), zD, g)) : ∀ s : (Int32 × Int32), wh (wX4_countRight_4 g) s = some o → zK x 3 4 [(0, .ref 37), (1, .int s.1), (2, .int s.2)] [] zD g 0 0 := by
  refine wh_ind (fun s : (Int32 × Int32) => zK x 3 4 [(0, .ref 37), (1, .int s.1), (2, .int s.2)] [] zD g 0 0) (fun s o h hk2 => ?_)
  replace hk : qX4_countRight_4 x g o := by
    cases o with
    | inl s => exact hk2
    | inr r => subst hk2; exact hk
  clear hk2
  unfold wX4_countRight_4 at h
  refine z_iload_n (pc := 4) hG 2 rfl rfl dX4_countRight_4 ?_
  refine z_aload_n (pc := 5) hG 0 rfl rfl dX4_countRight_5 ?_
  refine z_getr (pc := 6) hG zc_X4 inX4 DL_37 2 rfl (by decide) rfl w730 dX4_countRight_6 ?_
  refine z_geti (pc := 9) hG zc_X8 inX8 DL_31 1 rfl (by decide) rfl w683 dX4_countRight_9 ?_
  refine z_icmp_ge (pc := 12) (tgt := 43) hG dX4_countRight_12 rfl (fun hc => ?_) (fun hc => ?_)
  · replace h := zif_t hc h
    replace h := zex_some h
    obtain ⟨o, h, rfl⟩ := h
    refine z_iload_n (pc := 43) hG 1 rfl rfl dX4_countRight_43 ?_
    obtain rfl := Option.some.inj h
    exact z_iret (pc := 44) hG rfl rfl hk dX4_countRight_44
  · replace h := zif_f hc h
    refine z_aload_n (pc := 15) hG 0 rfl rfl dX4_countRight_15 ?_
    refine z_getr (pc := 16) hG zc_X4 inX4 DL_37 1 rfl (by decide) rfl w729 dX4_countRight_16 ?_
    refine z_aload_n (pc := 19) hG 0 rfl rfl dX4_countRight_19 ?_
    refine z_getr (pc := 20) hG zc_X4 inX4 DL_37 2 rfl (by decide) rfl w730 dX4_countRight_20 ?_
    refine z_getr (pc := 23) hG zc_X8 inX8 DL_31 0 rfl (by decide) rfl w680 dX4_countRight_23 ?_
    refine z_iload_n (pc := 26) hG 2 rfl rfl dX4_countRight_26 ?_
    replace h := zchk_some h
    obtain ⟨hc, h⟩ := h
    refine z_iald (pc := 27) hG DL_32 (zin_in hc) dX4_countRight_27 ?_
    replace h := zbind h
    obtain ⟨v1, hv1, h⟩ := h
    refine z_cvI (pc := 28) (A' := 0) (B' := 0) hG [.int (g.1 32 s.2.toNatClampNeg)] [] zc_X5 DL_20 (tX5_isRight hl0 (g.1 32 s.2.toNatClampNeg) g hv1) zy_X5_isRight ⟨w419, w420⟩ w487 dX4_countRight_28 rfl (Nat.le_of_ble_eq_true rfl) rfl rfl rfl (Nat.le_of_ble_eq_true rfl) rfl ?_
    refine z_if_eq (pc := 31) (tgt := 37) hG dX4_countRight_31 rfl (fun hc => ?_) (fun hc => ?_)
    · replace h := zif_t hc h
      refine z_iinc (pc := 37) (ls' := [(2, .int (s.2 + (1 : Int32))), (0, .ref 37), (1, .int s.1)]) hG 2 rfl [0, 1, 2] (ki_1 _) (by decide) rfl dX4_countRight_37 ?_
      refine z_goto (pc := 40) (tgt := 4) hG dX4_countRight_40 rfl ?_
      obtain rfl := Option.some.inj h
      refine z_sub (ls' := [(0, .ref 37), (1, .int s.1), (2, .int (s.2 + (1 : Int32)))]) [1, 2, 0] rfl ?_
      exact hk
    · replace h := zif_f hc h
      refine z_iinc (pc := 34) (ls' := [(1, .int (s.1 + (1 : Int32))), (0, .ref 37), (2, .int s.2)]) hG 1 rfl [0, 1, 2] (ki_1 _) (by decide) rfl dX4_countRight_34 ?_
      refine z_iinc (pc := 37) (ls' := [(2, .int (s.2 + (1 : Int32))), (1, .int (s.1 + (1 : Int32))), (0, .ref 37)]) hG 2 rfl [0, 1, 2] (ki_1 _) (by decide) rfl dX4_countRight_37 ?_
      refine z_goto (pc := 40) (tgt := 4) hG dX4_countRight_40 rfl ?_
      obtain rfl := Option.some.inj h
      refine z_sub (ls' := [(0, .ref 37), (1, .int (s.1 + (1 : Int32))), (2, .int (s.2 + (1 : Int32)))]) [2, 1, 0] rfl ?_
      exact hk
set_option maxHeartbeats 60000 in
theorem tX4_countRight {l : Launch} (hl0 : l.flags = flags0) (g : zS) {r : Int32} (h : nX4_countRight g = some r) : zC l yX4_countRight cX4_countRight 3 ((Option.some Jvm.ClassFile.FieldType.int)) 3 0 0 [.ref 37] zD g (.inl (some (.int r)), zD, g) := by
  refine zC_of hl0 rfl (Nat.le_of_ble_eq_true rfl) (fun x hG hxl hk _ => ?_)
  subst hxl
  show zK x 3 0 [(0, .ref 37)] [] zD g 0 0
  unfold nX4_countRight at h
  refine z_iconst (pc := 0) hG kc_0 dX4_countRight_0 ?_
  refine z_istore_n (pc := 1) (ls' := [(1, .int (0 : Int32)), (0, .ref 37)]) hG [0, 1] rfl (by decide) rfl dX4_countRight_1 ?_
  refine z_iconst (pc := 2) hG kc_0 dX4_countRight_2 ?_
  refine z_istore_n (pc := 3) (ls' := [(2, .int (0 : Int32)), (1, .int (0 : Int32)), (0, .ref 37)]) hG [0, 1, 2] rfl (by decide) rfl dX4_countRight_3 ?_
  refine z_sub (ls' := [(0, .ref 37), (1, .int (0 : Int32)), (2, .int (0 : Int32))]) [2, 1, 0] rfl ?_
  exact kwX4_countRight_4 hG hl0 g hk ((0 : Int32), (0 : Int32)) h
noncomputable def wX4_countMissing_4 (g : zS) (s : (Int32 × Int32)) : Option ((Int32 × Int32) ⊕ Int32) :=
  if (g.1 31 1) ≤ s.2 then (zex (some (s.1))) else (zchk (zin s.2 40) ((nX1_missingIn (g.1 32 s.2.toNatClampNeg) (g.1 3 0)).bind fun v1 => (nJ6_bitCount_0f7a4 v1).bind fun v2 => some (.inl ((s.1 + v2), (s.2 + (1 : Int32))))))
noncomputable def nX4_countMissing (g : zS) : Option Int32 :=
  wh (wX4_countMissing_4 g) ((0 : Int32), (0 : Int32))
def qX4_countMissing_4 (x : zXx) (g : zS) (o : (Int32 × Int32) ⊕ Int32) : Prop := match o with
  | .inl s => zK x 2 4 [(0, .ref 37), (1, .int s.1), (2, .int s.2)] [] zD g 0 0
  | .inr r => ztg x = (.inl (some (.int r)), zD, g)
set_option maxHeartbeats 60000 in
theorem kwX4_countMissing_4 {x : zXx} (hG : zG x cX4_countMissing 3 RX4 ((Option.some Jvm.ClassFile.FieldType.int))) (hl0 : (zl0 x).flags = flags0) (g : zS) {o : Int32} (hk : ztg x = (.inl (some (.int o)), zD, g)) : ∀ s : (Int32 × Int32), wh (wX4_countMissing_4 g) s = some o → zK x 2 4 [(0, .ref 37), (1, .int s.1), (2, .int s.2)] [] zD g 0 0 := by
  refine wh_ind (fun s : (Int32 × Int32) => zK x 2 4 [(0, .ref 37), (1, .int s.1), (2, .int s.2)] [] zD g 0 0) (fun s o h hk2 => ?_)
  replace hk : qX4_countMissing_4 x g o := by
    cases o with
    | inl s => exact hk2
    | inr r => subst hk2; exact hk
  clear hk2
  unfold wX4_countMissing_4 at h
  refine z_iload_n (pc := 4) hG 2 rfl rfl dX4_countMissing_4 ?_
  refine z_aload_n (pc := 5) hG 0 rfl rfl dX4_countMissing_5 ?_
  refine z_getr (pc := 6) hG zc_X4 inX4 DL_37 2 rfl (by decide) rfl w730 dX4_countMissing_6 ?_
  refine z_geti (pc := 9) hG zc_X8 inX8 DL_31 1 rfl (by decide) rfl w683 dX4_countMissing_9 ?_
  refine z_icmp_ge (pc := 12) (tgt := 46) hG dX4_countMissing_12 rfl (fun hc => ?_) (fun hc => ?_)
  · replace h := zif_t hc h
    replace h := zex_some h
    obtain ⟨o, h, rfl⟩ := h
    refine z_iload_n (pc := 46) hG 1 rfl rfl dX4_countMissing_46 ?_
    obtain rfl := Option.some.inj h
    exact z_iret (pc := 47) hG rfl rfl hk dX4_countMissing_47
  · replace h := zif_f hc h
    refine z_iload_n (pc := 15) hG 1 rfl rfl dX4_countMissing_15 ?_
    refine z_aload_n (pc := 16) hG 0 rfl rfl dX4_countMissing_16 ?_
    refine z_getr (pc := 17) hG zc_X4 inX4 DL_37 2 rfl (by decide) rfl w730 dX4_countMissing_17 ?_
    refine z_getr (pc := 20) hG zc_X8 inX8 DL_31 0 rfl (by decide) rfl w680 dX4_countMissing_20 ?_
    refine z_iload_n (pc := 23) hG 2 rfl rfl dX4_countMissing_23 ?_
    replace h := zchk_some h
    obtain ⟨hc, h⟩ := h
    refine z_iald (pc := 24) hG DL_32 (zin_in hc) dX4_countMissing_24 ?_
    refine z_aload_n (pc := 25) hG 0 rfl rfl dX4_countMissing_25 ?_
    refine z_getr (pc := 26) hG zc_X4 inX4 DL_37 0 rfl (by decide) rfl w728 dX4_countMissing_26 ?_
    refine z_geti (pc := 29) hG zc_X6 inX6 DL_3 0 rfl (by decide) rfl w534 dX4_countMissing_29 ?_
    replace h := zbind h
    obtain ⟨v1, hv1, h⟩ := h
    refine z_csI (pc := 32) (A' := 0) (B' := 0) hG [.int (g.1 32 s.2.toNatClampNeg), .int (g.1 3 0)] [.int s.1] (tX1_missingIn hl0 (g.1 32 s.2.toNatClampNeg) (g.1 3 0) g hv1) zy_X1_missingIn w276 w492 dX4_countMissing_32 rfl (Nat.le_of_ble_eq_true rfl) rfl rfl rfl (Nat.le_of_ble_eq_true rfl) rfl ?_
    replace h := zbind h
    obtain ⟨v2, hv2, h⟩ := h
    refine z_csI (pc := 35) (A' := 0) (B' := 0) hG [.int v1] [.int s.1] (tJ6_bitCount_0f7a4 hl0 v1 g hv2) zy_J6_bitCount_0f7a4 w400 w493 dX4_countMissing_35 rfl (Nat.le_of_ble_eq_true rfl) rfl rfl rfl (Nat.le_of_ble_eq_true rfl) rfl ?_
    refine z_iadd (pc := 38) hG dX4_countMissing_38 ?_
    refine z_istore_n (pc := 39) (ls' := [(1, .int (s.1 + v2)), (0, .ref 37), (2, .int s.2)]) hG [0, 1, 2] rfl (by decide) rfl dX4_countMissing_39 ?_
    refine z_iinc (pc := 40) (ls' := [(2, .int (s.2 + (1 : Int32))), (1, .int (s.1 + v2)), (0, .ref 37)]) hG 2 rfl [0, 1, 2] (ki_1 _) (by decide) rfl dX4_countMissing_40 ?_
    refine z_goto (pc := 43) (tgt := 4) hG dX4_countMissing_43 rfl ?_
    obtain rfl := Option.some.inj h
    refine z_sub (ls' := [(0, .ref 37), (1, .int (s.1 + v2)), (2, .int (s.2 + (1 : Int32)))]) [2, 1, 0] rfl ?_
    exact hk
set_option maxHeartbeats 60000 in
theorem tX4_countMissing {l : Launch} (hl0 : l.flags = flags0) (g : zS) {r : Int32} (h : nX4_countMissing g = some r) : zC l yX4_countMissing cX4_countMissing 3 ((Option.some Jvm.ClassFile.FieldType.int)) 2 0 0 [.ref 37] zD g (.inl (some (.int r)), zD, g) := by
  refine zC_of hl0 rfl (Nat.le_of_ble_eq_true rfl) (fun x hG hxl hk _ => ?_)
  subst hxl
  show zK x 2 0 [(0, .ref 37)] [] zD g 0 0
  unfold nX4_countMissing at h
  refine z_iconst (pc := 0) hG kc_0 dX4_countMissing_0 ?_
  refine z_istore_n (pc := 1) (ls' := [(1, .int (0 : Int32)), (0, .ref 37)]) hG [0, 1] rfl (by decide) rfl dX4_countMissing_1 ?_
  refine z_iconst (pc := 2) hG kc_0 dX4_countMissing_2 ?_
  refine z_istore_n (pc := 3) (ls' := [(2, .int (0 : Int32)), (1, .int (0 : Int32)), (0, .ref 37)]) hG [0, 1, 2] rfl (by decide) rfl dX4_countMissing_3 ?_
  refine z_sub (ls' := [(0, .ref 37), (1, .int (0 : Int32)), (2, .int (0 : Int32))]) [2, 1, 0] rfl ?_
  exact kwX4_countMissing_4 hG hl0 g hk ((0 : Int32), (0 : Int32)) h
noncomputable def wX6_allForms_15 (g : zS) (s : (Int32 × Int32)) : Option ((Int32 × Int32) ⊕ Int32) :=
  if (g.1 3 0) ≤ s.2 then (zex (some (s.1))) else (zchk (zin s.2 5) (some (.inl ((s.1 * (g.1 4 s.2.toNatClampNeg)), (s.2 + (1 : Int32))))))
noncomputable def nX6_allForms (g : zS) : Option Int32 :=
  if (g.1 3 0) = 0 then (wh (wX6_allForms_15 g) ((0 : Int32), (0 : Int32))) else (wh (wX6_allForms_15 g) ((1 : Int32), (0 : Int32)))
def qX6_allForms_15 (x : zXx) (g : zS) (o : (Int32 × Int32) ⊕ Int32) : Prop := match o with
  | .inl s => zK x 0 15 [(0, .ref 3), (1, .int s.1), (2, .int s.2)] [] zD g 0 0
  | .inr r => ztg x = (.inl (some (.int r)), zD, g)
set_option maxHeartbeats 60000 in
theorem kwX6_allForms_15 {x : zXx} (hG : zG x cX6_allForms 3 RX6 ((Option.some Jvm.ClassFile.FieldType.int))) (hl0 : (zl0 x).flags = flags0) (g : zS) {o : Int32} (hk : ztg x = (.inl (some (.int o)), zD, g)) : ∀ s : (Int32 × Int32), wh (wX6_allForms_15 g) s = some o → zK x 0 15 [(0, .ref 3), (1, .int s.1), (2, .int s.2)] [] zD g 0 0 := by
  refine wh_ind (fun s : (Int32 × Int32) => zK x 0 15 [(0, .ref 3), (1, .int s.1), (2, .int s.2)] [] zD g 0 0) (fun s o h hk2 => ?_)
  replace hk : qX6_allForms_15 x g o := by
    cases o with
    | inl s => exact hk2
    | inr r => subst hk2; exact hk
  clear hk2
  unfold wX6_allForms_15 at h
  refine z_iload_n (pc := 15) hG 2 rfl rfl dX6_allForms_15 ?_
  refine z_aload_n (pc := 16) hG 0 rfl rfl dX6_allForms_16 ?_
  refine z_geti (pc := 17) hG zc_X6 inX6 DL_3 0 rfl (by decide) rfl w532 dX6_allForms_17 ?_
  refine z_icmp_ge (pc := 20) (tgt := 38) hG dX6_allForms_20 rfl (fun hc => ?_) (fun hc => ?_)
  · replace h := zif_t hc h
    replace h := zex_some h
    obtain ⟨o, h, rfl⟩ := h
    refine z_iload_n (pc := 38) hG 1 rfl rfl dX6_allForms_38 ?_
    obtain rfl := Option.some.inj h
    exact z_iret (pc := 39) hG rfl rfl hk dX6_allForms_39
  · replace h := zif_f hc h
    refine z_iload_n (pc := 23) hG 1 rfl rfl dX6_allForms_23 ?_
    refine z_aload_n (pc := 24) hG 0 rfl rfl dX6_allForms_24 ?_
    refine z_getr (pc := 25) hG zc_X6 inX6 DL_3 1 rfl (by decide) rfl w538 dX6_allForms_25 ?_
    refine z_iload_n (pc := 28) hG 2 rfl rfl dX6_allForms_28 ?_
    replace h := zchk_some h
    obtain ⟨hc, h⟩ := h
    refine z_iald (pc := 29) hG DL_4 (zin_in hc) dX6_allForms_29 ?_
    refine z_imul (pc := 30) hG dX6_allForms_30 ?_
    refine z_istore_n (pc := 31) (ls' := [(1, .int (s.1 * (g.1 4 s.2.toNatClampNeg))), (0, .ref 3), (2, .int s.2)]) hG [0, 1, 2] rfl (by decide) rfl dX6_allForms_31 ?_
    refine z_iinc (pc := 32) (ls' := [(2, .int (s.2 + (1 : Int32))), (1, .int (s.1 * (g.1 4 s.2.toNatClampNeg))), (0, .ref 3)]) hG 2 rfl [0, 1, 2] (ki_1 _) (by decide) rfl dX6_allForms_32 ?_
    refine z_goto (pc := 35) (tgt := 15) hG dX6_allForms_35 rfl ?_
    obtain rfl := Option.some.inj h
    refine z_sub (ls' := [(0, .ref 3), (1, .int (s.1 * (g.1 4 s.2.toNatClampNeg))), (2, .int (s.2 + (1 : Int32)))]) [2, 1, 0] rfl ?_
    exact hk
set_option maxHeartbeats 60000 in
theorem tX6_allForms {l : Launch} (hl0 : l.flags = flags0) (g : zS) {r : Int32} (h : nX6_allForms g = some r) : zC l yX6_allForms cX6_allForms 3 ((Option.some Jvm.ClassFile.FieldType.int)) 0 0 0 [.ref 3] zD g (.inl (some (.int r)), zD, g) := by
  refine zC_of hl0 rfl (Nat.le_of_ble_eq_true rfl) (fun x hG hxl hk _ => ?_)
  subst hxl
  show zK x 0 0 [(0, .ref 3)] [] zD g 0 0
  unfold nX6_allForms at h
  refine z_aload_n (pc := 0) hG 0 rfl rfl dX6_allForms_0 ?_
  refine z_geti (pc := 1) hG zc_X6 inX6 DL_3 0 rfl (by decide) rfl w532 dX6_allForms_1 ?_
  refine z_if_ne (pc := 4) (tgt := 11) hG dX6_allForms_4 rfl (fun hc => ?_) (fun hc => ?_)
  · replace h := zif_f hc h
    refine z_iconst (pc := 11) hG kc_1 dX6_allForms_11 ?_
    refine z_istore_n (pc := 12) (ls' := [(1, .int (1 : Int32)), (0, .ref 3)]) hG [0, 1] rfl (by decide) rfl dX6_allForms_12 ?_
    refine z_iconst (pc := 13) hG kc_0 dX6_allForms_13 ?_
    refine z_istore_n (pc := 14) (ls' := [(2, .int (0 : Int32)), (1, .int (1 : Int32)), (0, .ref 3)]) hG [0, 1, 2] rfl (by decide) rfl dX6_allForms_14 ?_
    refine z_sub (ls' := [(0, .ref 3), (1, .int (1 : Int32)), (2, .int (0 : Int32))]) [2, 1, 0] rfl ?_
    exact kwX6_allForms_15 hG hl0 g hk ((1 : Int32), (0 : Int32)) h
  · replace h := zif_t hc h
    refine z_iconst (pc := 7) hG kc_0 dX6_allForms_7 ?_
    refine z_goto (pc := 8) (tgt := 12) hG dX6_allForms_8 rfl ?_
    refine z_istore_n (pc := 12) (ls' := [(1, .int (0 : Int32)), (0, .ref 3)]) hG [0, 1] rfl (by decide) rfl dX6_allForms_12 ?_
    refine z_iconst (pc := 13) hG kc_0 dX6_allForms_13 ?_
    refine z_istore_n (pc := 14) (ls' := [(2, .int (0 : Int32)), (1, .int (0 : Int32)), (0, .ref 3)]) hG [0, 1, 2] rfl (by decide) rfl dX6_allForms_14 ?_
    refine z_sub (ls' := [(0, .ref 3), (1, .int (0 : Int32)), (2, .int (0 : Int32))]) [2, 1, 0] rfl ?_
    exact kwX6_allForms_15 hG hl0 g hk ((0 : Int32), (0 : Int32)) h
noncomputable def nX4_countMendable (g : zS) : Option Int32 :=
  if (g.1 20 6) ≤ 0 then (some ((0 : Int32))) else (some ((g.1 31 1)))
set_option maxHeartbeats 60000 in
theorem tX4_countMendable {l : Launch} (hl0 : l.flags = flags0) (g : zS) {r : Int32} (h : nX4_countMendable g = some r) : zC l yX4_countMendable cX4_countMendable 1 ((Option.some Jvm.ClassFile.FieldType.int)) 0 0 0 [.ref 37] zD g (.inl (some (.int r)), zD, g) := by
  refine zC_of hl0 rfl (Nat.le_of_ble_eq_true rfl) (fun x hG hxl hk _ => ?_)
  subst hxl
  show zK x 0 0 [(0, .ref 37)] [] zD g 0 0
  unfold nX4_countMendable at h
  refine z_aload_n (pc := 0) hG 0 rfl rfl dX4_countMendable_0 ?_
  refine z_getr (pc := 1) hG zc_X4 inX4 DL_37 1 rfl (by decide) rfl w729 dX4_countMendable_1 ?_
  refine z_geti (pc := 4) hG zc_X5 inX5 DL_20 6 rfl (by decide) rfl w626 dX4_countMendable_4 ?_
  refine z_if_le (pc := 7) (tgt := 20) hG dX4_countMendable_7 rfl (fun hc => ?_) (fun hc => ?_)
  · replace h := zif_t hc h
    refine z_iconst (pc := 20) hG kc_0 dX4_countMendable_20 ?_
    obtain rfl := Option.some.inj h
    exact z_iret (pc := 21) hG rfl rfl hk dX4_countMendable_21
  · replace h := zif_f hc h
    refine z_aload_n (pc := 10) hG 0 rfl rfl dX4_countMendable_10 ?_
    refine z_getr (pc := 11) hG zc_X4 inX4 DL_37 2 rfl (by decide) rfl w730 dX4_countMendable_11 ?_
    refine z_geti (pc := 14) hG zc_X8 inX8 DL_31 1 rfl (by decide) rfl w683 dX4_countMendable_14 ?_
    refine z_goto (pc := 17) (tgt := 21) hG dX4_countMendable_17 rfl ?_
    obtain rfl := Option.some.inj h
    exact z_iret (pc := 21) hG rfl rfl hk dX4_countMendable_21
