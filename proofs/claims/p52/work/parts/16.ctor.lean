
/-! ===== the constructors ===== -/
theorem kb_25 : (Int8.ofInt (25)).toInt32 = (25 : Int32) := by decide
theorem ks_656 : (Int16.ofInt (656)).toInt32 = (656 : Int32) := by decide
theorem dX10_init_0 : decode cX10_init 0 = .ok (.aload_n 0, 1) := by decide +kernel
theorem dX10_init_1 : decode cX10_init 1 = .ok (.invokespecial 1, 3) := by decide +kernel
theorem dX10_init_4 : decode cX10_init 4 = .ok (.aload_n 0, 1) := by decide +kernel
theorem dX10_init_5 : decode cX10_init 5 = .ok (.new 7, 3) := by decide +kernel
theorem dX10_init_8 : decode cX10_init 8 = .ok (.dup, 1) := by decide +kernel
theorem dX10_init_9 : decode cX10_init 9 = .ok (.invokespecial 9, 3) := by decide +kernel
theorem dX10_init_12 : decode cX10_init 12 = .ok (.putfield 10, 3) := by decide +kernel
theorem dX10_init_15 : decode cX10_init 15 = .ok (.aload_n 0, 1) := by decide +kernel
theorem dX10_init_16 : decode cX10_init 16 = .ok (.new 16, 3) := by decide +kernel
theorem dX10_init_19 : decode cX10_init 19 = .ok (.dup, 1) := by decide +kernel
theorem dX10_init_20 : decode cX10_init 20 = .ok (.invokespecial 18, 3) := by decide +kernel
theorem dX10_init_23 : decode cX10_init 23 = .ok (.putfield 19, 3) := by decide +kernel
theorem dX10_init_26 : decode cX10_init 26 = .ok (.aload_n 0, 1) := by decide +kernel
theorem dX10_init_27 : decode cX10_init 27 = .ok (.new 16, 3) := by decide +kernel
theorem dX10_init_30 : decode cX10_init 30 = .ok (.dup, 1) := by decide +kernel
theorem dX10_init_31 : decode cX10_init 31 = .ok (.invokespecial 18, 3) := by decide +kernel
theorem dX10_init_34 : decode cX10_init 34 = .ok (.putfield 23, 3) := by decide +kernel
theorem dX10_init_37 : decode cX10_init 37 = .ok (.aload_n 0, 1) := by decide +kernel
theorem dX10_init_38 : decode cX10_init 38 = .ok (.new 26, 3) := by decide +kernel
theorem dX10_init_41 : decode cX10_init 41 = .ok (.dup, 1) := by decide +kernel
theorem dX10_init_42 : decode cX10_init 42 = .ok (.aload_n 0, 1) := by decide +kernel
theorem dX10_init_43 : decode cX10_init 43 = .ok (.getfield 10, 3) := by decide +kernel
theorem dX10_init_46 : decode cX10_init 46 = .ok (.aload_n 0, 1) := by decide +kernel
theorem dX10_init_47 : decode cX10_init 47 = .ok (.getfield 23, 3) := by decide +kernel
theorem dX10_init_50 : decode cX10_init 50 = .ok (.invokespecial 28, 3) := by decide +kernel
theorem dX10_init_53 : decode cX10_init 53 = .ok (.putfield 31, 3) := by decide +kernel
theorem dX10_init_56 : decode cX10_init 56 = .ok (.aload_n 0, 1) := by decide +kernel
theorem dX10_init_57 : decode cX10_init 57 = .ok (.new 35, 3) := by decide +kernel
theorem dX10_init_60 : decode cX10_init 60 = .ok (.dup, 1) := by decide +kernel
theorem dX10_init_61 : decode cX10_init 61 = .ok (.aload_n 0, 1) := by decide +kernel
theorem dX10_init_62 : decode cX10_init 62 = .ok (.getfield 19, 3) := by decide +kernel
theorem dX10_init_65 : decode cX10_init 65 = .ok (.invokespecial 37, 3) := by decide +kernel
theorem dX10_init_68 : decode cX10_init 68 = .ok (.putfield 40, 3) := by decide +kernel
theorem dX10_init_71 : decode cX10_init 71 = .ok (.aload_n 0, 1) := by decide +kernel
theorem dX10_init_72 : decode cX10_init 72 = .ok (.new 44, 3) := by decide +kernel
theorem dX10_init_75 : decode cX10_init 75 = .ok (.dup, 1) := by decide +kernel
theorem dX10_init_76 : decode cX10_init 76 = .ok (.aload_n 0, 1) := by decide +kernel
theorem dX10_init_77 : decode cX10_init 77 = .ok (.getfield 19, 3) := by decide +kernel
theorem dX10_init_80 : decode cX10_init 80 = .ok (.aload_n 0, 1) := by decide +kernel
theorem dX10_init_81 : decode cX10_init 81 = .ok (.getfield 40, 3) := by decide +kernel
theorem dX10_init_84 : decode cX10_init 84 = .ok (.invokespecial 46, 3) := by decide +kernel
theorem dX10_init_87 : decode cX10_init 87 = .ok (.putfield 49, 3) := by decide +kernel
theorem dX10_init_90 : decode cX10_init 90 = .ok (.aload_n 0, 1) := by decide +kernel
theorem dX10_init_91 : decode cX10_init 91 = .ok (.new 53, 3) := by decide +kernel
theorem dX10_init_94 : decode cX10_init 94 = .ok (.dup, 1) := by decide +kernel
theorem dX10_init_95 : decode cX10_init 95 = .ok (.invokespecial 55, 3) := by decide +kernel
theorem dX10_init_98 : decode cX10_init 98 = .ok (.putfield 56, 3) := by decide +kernel
theorem dX10_init_101 : decode cX10_init 101 = .ok (.aload_n 0, 1) := by decide +kernel
theorem dX10_init_102 : decode cX10_init 102 = .ok (.new 60, 3) := by decide +kernel
theorem dX10_init_105 : decode cX10_init 105 = .ok (.dup, 1) := by decide +kernel
theorem dX10_init_106 : decode cX10_init 106 = .ok (.aload_n 0, 1) := by decide +kernel
theorem dX10_init_107 : decode cX10_init 107 = .ok (.getfield 19, 3) := by decide +kernel
theorem dX10_init_110 : decode cX10_init 110 = .ok (.aload_n 0, 1) := by decide +kernel
theorem dX10_init_111 : decode cX10_init 111 = .ok (.getfield 40, 3) := by decide +kernel
theorem dX10_init_114 : decode cX10_init 114 = .ok (.aload_n 0, 1) := by decide +kernel
theorem dX10_init_115 : decode cX10_init 115 = .ok (.getfield 56, 3) := by decide +kernel
theorem dX10_init_118 : decode cX10_init 118 = .ok (.invokespecial 62, 3) := by decide +kernel
theorem dX10_init_121 : decode cX10_init 121 = .ok (.putfield 65, 3) := by decide +kernel
theorem dX10_init_124 : decode cX10_init 124 = .ok (.aload_n 0, 1) := by decide +kernel
theorem dX10_init_125 : decode cX10_init 125 = .ok (.new 69, 3) := by decide +kernel
theorem dX10_init_128 : decode cX10_init 128 = .ok (.dup, 1) := by decide +kernel
theorem dX10_init_129 : decode cX10_init 129 = .ok (.aload_n 0, 1) := by decide +kernel
theorem dX10_init_130 : decode cX10_init 130 = .ok (.getfield 19, 3) := by decide +kernel
theorem dX10_init_133 : decode cX10_init 133 = .ok (.aload_n 0, 1) := by decide +kernel
theorem dX10_init_134 : decode cX10_init 134 = .ok (.getfield 40, 3) := by decide +kernel
theorem dX10_init_137 : decode cX10_init 137 = .ok (.aload_n 0, 1) := by decide +kernel
theorem dX10_init_138 : decode cX10_init 138 = .ok (.getfield 56, 3) := by decide +kernel
theorem dX10_init_141 : decode cX10_init 141 = .ok (.invokespecial 71, 3) := by decide +kernel
theorem dX10_init_144 : decode cX10_init 144 = .ok (.putfield 72, 3) := by decide +kernel
theorem dX10_init_147 : decode cX10_init 147 = .ok (.aload_n 0, 1) := by decide +kernel
theorem dX10_init_148 : decode cX10_init 148 = .ok (.bipush 40, 2) := by decide +kernel
theorem dX10_init_150 : decode cX10_init 150 = .ok (.newarray .int, 2) := by decide +kernel
theorem dX10_init_152 : decode cX10_init 152 = .ok (.putfield 76, 3) := by decide +kernel
theorem dX10_init_155 : decode cX10_init 155 = .ok (.aload_n 0, 1) := by decide +kernel
theorem dX10_init_156 : decode cX10_init 156 = .ok (.iconst 5, 1) := by decide +kernel
theorem dX10_init_157 : decode cX10_init 157 = .ok (.newarray .byte, 2) := by decide +kernel
theorem dX10_init_159 : decode cX10_init 159 = .ok (.putfield 80, 3) := by decide +kernel
theorem dX10_init_162 : decode cX10_init 162 = .ok (.aload_n 0, 1) := by decide +kernel
theorem dX10_init_163 : decode cX10_init 163 = .ok (.iconst 0, 1) := by decide +kernel
theorem dX10_init_164 : decode cX10_init 164 = .ok (.putfield 84, 3) := by decide +kernel
theorem dX10_init_167 : decode cX10_init 167 = .ok (.aload_n 0, 1) := by decide +kernel
theorem dX10_init_168 : decode cX10_init 168 = .ok (.iconst (-1), 1) := by decide +kernel
theorem dX10_init_169 : decode cX10_init 169 = .ok (.putfield 88, 3) := by decide +kernel
theorem dX10_init_172 : decode cX10_init 172 = .ok (.return_, 1) := by decide +kernel
theorem dX9_init_0 : decode cX9_init 0 = .ok (.aload_n 0, 1) := by decide +kernel
theorem dX9_init_1 : decode cX9_init 1 = .ok (.invokespecial 3, 3) := by decide +kernel
theorem dX9_init_4 : decode cX9_init 4 = .ok (.aload_n 0, 1) := by decide +kernel
theorem dX9_init_5 : decode cX9_init 5 = .ok (.sipush 400, 3) := by decide +kernel
theorem dX9_init_8 : decode cX9_init 8 = .ok (.newarray .byte, 2) := by decide +kernel
theorem dX9_init_10 : decode cX9_init 10 = .ok (.putfield 11, 3) := by decide +kernel
theorem dX9_init_13 : decode cX9_init 13 = .ok (.return_, 1) := by decide +kernel
theorem dX6_init_0 : decode cX6_init 0 = .ok (.aload_n 0, 1) := by decide +kernel
theorem dX6_init_1 : decode cX6_init 1 = .ok (.invokespecial 3, 3) := by decide +kernel
theorem dX6_init_4 : decode cX6_init 4 = .ok (.aload_n 0, 1) := by decide +kernel
theorem dX6_init_5 : decode cX6_init 5 = .ok (.iconst 5, 1) := by decide +kernel
theorem dX6_init_6 : decode cX6_init 6 = .ok (.newarray .int, 2) := by decide +kernel
theorem dX6_init_8 : decode cX6_init 8 = .ok (.putfield 9, 3) := by decide +kernel
theorem dX6_init_11 : decode cX6_init 11 = .ok (.aload_n 0, 1) := by decide +kernel
theorem dX6_init_12 : decode cX6_init 12 = .ok (.iconst 5, 1) := by decide +kernel
theorem dX6_init_13 : decode cX6_init 13 = .ok (.newarray .int, 2) := by decide +kernel
theorem dX6_init_15 : decode cX6_init 15 = .ok (.putfield 15, 3) := by decide +kernel
theorem dX6_init_18 : decode cX6_init 18 = .ok (.aload_n 0, 1) := by decide +kernel
theorem dX6_init_19 : decode cX6_init 19 = .ok (.iconst 5, 1) := by decide +kernel
theorem dX6_init_20 : decode cX6_init 20 = .ok (.newarray .int, 2) := by decide +kernel
theorem dX6_init_22 : decode cX6_init 22 = .ok (.putfield 18, 3) := by decide +kernel
theorem dX6_init_25 : decode cX6_init 25 = .ok (.aload_n 0, 1) := by decide +kernel
theorem dX6_init_26 : decode cX6_init 26 = .ok (.bipush 30, 2) := by decide +kernel
theorem dX6_init_28 : decode cX6_init 28 = .ok (.newarray .byte, 2) := by decide +kernel
theorem dX6_init_30 : decode cX6_init 30 = .ok (.putfield 21, 3) := by decide +kernel
theorem dX6_init_33 : decode cX6_init 33 = .ok (.aload_n 0, 1) := by decide +kernel
theorem dX6_init_34 : decode cX6_init 34 = .ok (.iconst 5, 1) := by decide +kernel
theorem dX6_init_35 : decode cX6_init 35 = .ok (.newarray .int, 2) := by decide +kernel
theorem dX6_init_37 : decode cX6_init 37 = .ok (.putfield 25, 3) := by decide +kernel
theorem dX6_init_40 : decode cX6_init 40 = .ok (.aload_n 0, 1) := by decide +kernel
theorem dX6_init_41 : decode cX6_init 41 = .ok (.iconst (-1), 1) := by decide +kernel
theorem dX6_init_42 : decode cX6_init 42 = .ok (.putfield 28, 3) := by decide +kernel
theorem dX6_init_45 : decode cX6_init 45 = .ok (.aload_n 0, 1) := by decide +kernel
theorem dX6_init_46 : decode cX6_init 46 = .ok (.bipush 30, 2) := by decide +kernel
theorem dX6_init_48 : decode cX6_init 48 = .ok (.newarray .int, 2) := by decide +kernel
theorem dX6_init_50 : decode cX6_init 50 = .ok (.putfield 32, 3) := by decide +kernel
theorem dX6_init_53 : decode cX6_init 53 = .ok (.aload_n 0, 1) := by decide +kernel
theorem dX6_init_54 : decode cX6_init 54 = .ok (.bipush 40, 2) := by decide +kernel
theorem dX6_init_56 : decode cX6_init 56 = .ok (.newarray .int, 2) := by decide +kernel
theorem dX6_init_58 : decode cX6_init 58 = .ok (.putfield 35, 3) := by decide +kernel
theorem dX6_init_61 : decode cX6_init 61 = .ok (.return_, 1) := by decide +kernel
theorem dX7_init_0 : decode cX7_init 0 = .ok (.aload_n 0, 1) := by decide +kernel
theorem dX7_init_1 : decode cX7_init 1 = .ok (.invokespecial 3, 3) := by decide +kernel
theorem dX7_init_4 : decode cX7_init 4 = .ok (.aload_n 0, 1) := by decide +kernel
theorem dX7_init_5 : decode cX7_init 5 = .ok (.aload_n 1, 1) := by decide +kernel
theorem dX7_init_6 : decode cX7_init 6 = .ok (.putfield 9, 3) := by decide +kernel
theorem dX7_init_9 : decode cX7_init 9 = .ok (.aload_n 0, 1) := by decide +kernel
theorem dX7_init_10 : decode cX7_init 10 = .ok (.aload_n 2, 1) := by decide +kernel
theorem dX7_init_11 : decode cX7_init 11 = .ok (.putfield 15, 3) := by decide +kernel
theorem dX7_init_14 : decode cX7_init 14 = .ok (.return_, 1) := by decide +kernel
theorem dX5_init_0 : decode cX5_init 0 = .ok (.aload_n 0, 1) := by decide +kernel
theorem dX5_init_1 : decode cX5_init 1 = .ok (.invokespecial 3, 3) := by decide +kernel
theorem dX5_init_4 : decode cX5_init 4 = .ok (.aload_n 0, 1) := by decide +kernel
theorem dX5_init_5 : decode cX5_init 5 = .ok (.bipush 30, 2) := by decide +kernel
theorem dX5_init_7 : decode cX5_init 7 = .ok (.newarray .int, 2) := by decide +kernel
theorem dX5_init_9 : decode cX5_init 9 = .ok (.putfield 11, 3) := by decide +kernel
theorem dX5_init_12 : decode cX5_init 12 = .ok (.aload_n 0, 1) := by decide +kernel
theorem dX5_init_13 : decode cX5_init 13 = .ok (.bipush 32, 2) := by decide +kernel
theorem dX5_init_15 : decode cX5_init 15 = .ok (.newarray .int, 2) := by decide +kernel
theorem dX5_init_17 : decode cX5_init 17 = .ok (.putfield 15, 3) := by decide +kernel
theorem dX5_init_20 : decode cX5_init 20 = .ok (.aload_n 0, 1) := by decide +kernel
theorem dX5_init_21 : decode cX5_init 21 = .ok (.bipush 32, 2) := by decide +kernel
theorem dX5_init_23 : decode cX5_init 23 = .ok (.newarray .long, 2) := by decide +kernel
theorem dX5_init_25 : decode cX5_init 25 = .ok (.putfield 18, 3) := by decide +kernel
theorem dX5_init_28 : decode cX5_init 28 = .ok (.aload_n 0, 1) := by decide +kernel
theorem dX5_init_29 : decode cX5_init 29 = .ok (.bipush 64, 2) := by decide +kernel
theorem dX5_init_31 : decode cX5_init 31 = .ok (.newarray .int, 2) := by decide +kernel
theorem dX5_init_33 : decode cX5_init 33 = .ok (.putfield 22, 3) := by decide +kernel
theorem dX5_init_36 : decode cX5_init 36 = .ok (.aload_n 0, 1) := by decide +kernel
theorem dX5_init_37 : decode cX5_init 37 = .ok (.bipush 64, 2) := by decide +kernel
theorem dX5_init_39 : decode cX5_init 39 = .ok (.newarray .int, 2) := by decide +kernel
theorem dX5_init_41 : decode cX5_init 41 = .ok (.putfield 25, 3) := by decide +kernel
theorem dX5_init_44 : decode cX5_init 44 = .ok (.aload_n 0, 1) := by decide +kernel
theorem dX5_init_45 : decode cX5_init 45 = .ok (.aload_n 1, 1) := by decide +kernel
theorem dX5_init_46 : decode cX5_init 46 = .ok (.putfield 28, 3) := by decide +kernel
theorem dX5_init_49 : decode cX5_init 49 = .ok (.return_, 1) := by decide +kernel
theorem dX0_init_0 : decode cX0_init 0 = .ok (.aload_n 0, 1) := by decide +kernel
theorem dX0_init_1 : decode cX0_init 1 = .ok (.invokespecial 3, 3) := by decide +kernel
theorem dX0_init_4 : decode cX0_init 4 = .ok (.aload_n 0, 1) := by decide +kernel
theorem dX0_init_5 : decode cX0_init 5 = .ok (.bipush 64, 2) := by decide +kernel
theorem dX0_init_7 : decode cX0_init 7 = .ok (.newarray .int, 2) := by decide +kernel
theorem dX0_init_9 : decode cX0_init 9 = .ok (.putfield 9, 3) := by decide +kernel
theorem dX0_init_12 : decode cX0_init 12 = .ok (.aload_n 0, 1) := by decide +kernel
theorem dX0_init_13 : decode cX0_init 13 = .ok (.iconst 5, 1) := by decide +kernel
theorem dX0_init_14 : decode cX0_init 14 = .ok (.newarray .int, 2) := by decide +kernel
theorem dX0_init_16 : decode cX0_init 16 = .ok (.putfield 15, 3) := by decide +kernel
theorem dX0_init_19 : decode cX0_init 19 = .ok (.aload_n 0, 1) := by decide +kernel
theorem dX0_init_20 : decode cX0_init 20 = .ok (.bipush 6, 2) := by decide +kernel
theorem dX0_init_22 : decode cX0_init 22 = .ok (.newarray .long, 2) := by decide +kernel
theorem dX0_init_24 : decode cX0_init 24 = .ok (.putfield 18, 3) := by decide +kernel
theorem dX0_init_27 : decode cX0_init 27 = .ok (.aload_n 0, 1) := by decide +kernel
theorem dX0_init_28 : decode cX0_init 28 = .ok (.bipush 25, 2) := by decide +kernel
theorem dX0_init_30 : decode cX0_init 30 = .ok (.newarray .long, 2) := by decide +kernel
theorem dX0_init_32 : decode cX0_init 32 = .ok (.putfield 22, 3) := by decide +kernel
theorem dX0_init_35 : decode cX0_init 35 = .ok (.aload_n 0, 1) := by decide +kernel
theorem dX0_init_36 : decode cX0_init 36 = .ok (.aload_n 1, 1) := by decide +kernel
theorem dX0_init_37 : decode cX0_init 37 = .ok (.putfield 25, 3) := by decide +kernel
theorem dX0_init_40 : decode cX0_init 40 = .ok (.aload_n 0, 1) := by decide +kernel
theorem dX0_init_41 : decode cX0_init 41 = .ok (.aload_n 2, 1) := by decide +kernel
theorem dX0_init_42 : decode cX0_init 42 = .ok (.putfield 29, 3) := by decide +kernel
theorem dX0_init_45 : decode cX0_init 45 = .ok (.return_, 1) := by decide +kernel
theorem dX8_init_0 : decode cX8_init 0 = .ok (.aload_n 0, 1) := by decide +kernel
theorem dX8_init_1 : decode cX8_init 1 = .ok (.invokespecial 3, 3) := by decide +kernel
theorem dX8_init_4 : decode cX8_init 4 = .ok (.aload_n 0, 1) := by decide +kernel
theorem dX8_init_5 : decode cX8_init 5 = .ok (.bipush 40, 2) := by decide +kernel
theorem dX8_init_7 : decode cX8_init 7 = .ok (.newarray .int, 2) := by decide +kernel
theorem dX8_init_9 : decode cX8_init 9 = .ok (.putfield 9, 3) := by decide +kernel
theorem dX8_init_12 : decode cX8_init 12 = .ok (.aload_n 0, 1) := by decide +kernel
theorem dX8_init_13 : decode cX8_init 13 = .ok (.sipush 656, 3) := by decide +kernel
theorem dX8_init_16 : decode cX8_init 16 = .ok (.newarray .int, 2) := by decide +kernel
theorem dX8_init_18 : decode cX8_init 18 = .ok (.putfield 15, 3) := by decide +kernel
theorem dX8_init_21 : decode cX8_init 21 = .ok (.return_, 1) := by decide +kernel
theorem dX2_init_0 : decode cX2_init 0 = .ok (.aload_n 0, 1) := by decide +kernel
theorem dX2_init_1 : decode cX2_init 1 = .ok (.invokespecial 3, 3) := by decide +kernel
theorem dX2_init_4 : decode cX2_init 4 = .ok (.aload_n 0, 1) := by decide +kernel
theorem dX2_init_5 : decode cX2_init 5 = .ok (.bipush 40, 2) := by decide +kernel
theorem dX2_init_7 : decode cX2_init 7 = .ok (.newarray .int, 2) := by decide +kernel
theorem dX2_init_9 : decode cX2_init 9 = .ok (.putfield 9, 3) := by decide +kernel
theorem dX2_init_12 : decode cX2_init 12 = .ok (.aload_n 0, 1) := by decide +kernel
theorem dX2_init_13 : decode cX2_init 13 = .ok (.bipush 40, 2) := by decide +kernel
theorem dX2_init_15 : decode cX2_init 15 = .ok (.newarray .int, 2) := by decide +kernel
theorem dX2_init_17 : decode cX2_init 17 = .ok (.putfield 15, 3) := by decide +kernel
theorem dX2_init_20 : decode cX2_init 20 = .ok (.aload_n 0, 1) := by decide +kernel
theorem dX2_init_21 : decode cX2_init 21 = .ok (.aload_n 1, 1) := by decide +kernel
theorem dX2_init_22 : decode cX2_init 22 = .ok (.putfield 18, 3) := by decide +kernel
theorem dX2_init_25 : decode cX2_init 25 = .ok (.aload_n 0, 1) := by decide +kernel
theorem dX2_init_26 : decode cX2_init 26 = .ok (.aload_n 2, 1) := by decide +kernel
theorem dX2_init_27 : decode cX2_init 27 = .ok (.putfield 22, 3) := by decide +kernel
theorem dX2_init_30 : decode cX2_init 30 = .ok (.aload_n 0, 1) := by decide +kernel
theorem dX2_init_31 : decode cX2_init 31 = .ok (.aload_n 3, 1) := by decide +kernel
theorem dX2_init_32 : decode cX2_init 32 = .ok (.putfield 26, 3) := by decide +kernel
theorem dX2_init_35 : decode cX2_init 35 = .ok (.return_, 1) := by decide +kernel
theorem dX4_init_0 : decode cX4_init 0 = .ok (.aload_n 0, 1) := by decide +kernel
theorem dX4_init_1 : decode cX4_init 1 = .ok (.invokespecial 3, 3) := by decide +kernel
theorem dX4_init_4 : decode cX4_init 4 = .ok (.aload_n 0, 1) := by decide +kernel
theorem dX4_init_5 : decode cX4_init 5 = .ok (.bipush 40, 2) := by decide +kernel
theorem dX4_init_7 : decode cX4_init 7 = .ok (.newarray .int, 2) := by decide +kernel
theorem dX4_init_9 : decode cX4_init 9 = .ok (.putfield 9, 3) := by decide +kernel
theorem dX4_init_12 : decode cX4_init 12 = .ok (.aload_n 0, 1) := by decide +kernel
theorem dX4_init_13 : decode cX4_init 13 = .ok (.bipush 40, 2) := by decide +kernel
theorem dX4_init_15 : decode cX4_init 15 = .ok (.newarray .int, 2) := by decide +kernel
theorem dX4_init_17 : decode cX4_init 17 = .ok (.putfield 15, 3) := by decide +kernel
theorem dX4_init_20 : decode cX4_init 20 = .ok (.aload_n 0, 1) := by decide +kernel
theorem dX4_init_21 : decode cX4_init 21 = .ok (.aload_n 1, 1) := by decide +kernel
theorem dX4_init_22 : decode cX4_init 22 = .ok (.putfield 18, 3) := by decide +kernel
theorem dX4_init_25 : decode cX4_init 25 = .ok (.aload_n 0, 1) := by decide +kernel
theorem dX4_init_26 : decode cX4_init 26 = .ok (.aload_n 2, 1) := by decide +kernel
theorem dX4_init_27 : decode cX4_init 27 = .ok (.putfield 22, 3) := by decide +kernel
theorem dX4_init_30 : decode cX4_init 30 = .ok (.aload_n 0, 1) := by decide +kernel
theorem dX4_init_31 : decode cX4_init 31 = .ok (.aload_n 3, 1) := by decide +kernel
theorem dX4_init_32 : decode cX4_init 32 = .ok (.putfield 26, 3) := by decide +kernel
theorem dX4_init_35 : decode cX4_init 35 = .ok (.return_, 1) := by decide +kernel
def zS0 : zS := (fun _ _ => 0, fun _ _ => 0, 0, 64)
def zE_0 : List zDs := []
theorem w_oin : Cond.code Lib.objectInit ⟨#[0xb1]⟩ 1 none ∈ zT := zT_k1 68 rfl rfl
def zE_1 : List zDs := zE_0 ++ [.inl (8, [(3, 0), (3, 0), (3, 0), (3, 0), (3, 0), (3, 0), (3, 0), (3, 0), (3, 0), (3, 0), (3, 0), (0, 0), (0, 0)])]
def zE_2 : List zDs := zE_1 ++ [.inl (7, [(3, 0), (0, 0)])]
def zE_3 : List zDs := zE_2 ++ [.inr (1, 400)]
def zE_4 : List zDs := zE_3.set 1 (.inl (7, [(1, 2), (0, 0)]))
set_option maxHeartbeats 400000 in
set_option maxRecDepth 100000 in
theorem ti_X9_init_1 {l : Launch} (hl0 : l.flags = flags0) : zC l yX9_init cX9_init 1 none 0 1 400 [.ref 1] zE_2 zS0 (.inl none, zE_4, zS0) := by
  refine zC_of hl0 rfl (Nat.le_of_ble_eq_true rfl) (fun x hG hxl hk hnam => ?_)
  subst hxl
  show zK x 0 0 [(0, .ref 1)] [] zE_2 zS0 1 400
  refine z_aload_n (pc := 0) hG 0 rfl rfl dX9_init_0 ?_
  refine z_objinit (pc := 1) hG w516 w67 w_oin (Nat.le_of_ble_eq_true rfl) dX9_init_1 ?_
  refine z_aload_n (pc := 4) hG 0 rfl rfl dX9_init_4 ?_
  refine z_sipush (pc := 5) hG ks_400 dX9_init_5 ?_
  refine z_newa (A' := 0) (B' := 0) (atype := .byte) (t := 1) (N := 400) (z := (400, .inl (fun _ => 0))) (pc := 8) hG wa_byte rfl (fun _ => rfl) rfl (fun _ _ => Iff.rfl) (i := 2) (by decide +kernel) (by decide) (by decide +kernel) (fun _ _ => rfl) (fun _ => rfl) (by decide) rfl (Nat.le_of_ble_eq_true rfl) rfl rfl (dl' := zE_3) rfl rfl rfl dX9_init_8 ?_
  refine z_putrF (pc := 10) hG hnam zc_X9 inX9 tyX9 tyX9_ok nmX9 (i := 1) (fl := [(3, 0), (0, 0)]) (q := (1, 2)) (by decide +kernel) 0 (by decide) (by decide) rfl (fun _ => rfl) w517 rfl rfl (fun _ => rfl) (fun _ => rfl) (dl' := zE_4) rfl dX9_init_10 ?_
  exact z_vret (pc := 13) hG rfl hk dX9_init_13
def zE_5 : List zDs := zE_4.set 0 (.inl (8, [(1, 1), (3, 0), (3, 0), (3, 0), (3, 0), (3, 0), (3, 0), (3, 0), (3, 0), (3, 0), (3, 0), (0, 0), (0, 0)]))
def zE_6 : List zDs := zE_5 ++ [.inl (4, [(0, 0), (3, 0), (3, 0), (3, 0), (3, 0), (3, 0), (0, 0), (0, 0), (3, 0), (0, 0), (3, 0)])]
def zE_7 : List zDs := zE_6 ++ [.inr (0, 5)]
def zE_8 : List zDs := zE_7.set 3 (.inl (4, [(0, 0), (1, 4), (3, 0), (3, 0), (3, 0), (3, 0), (0, 0), (0, 0), (3, 0), (0, 0), (3, 0)]))
def zE_9 : List zDs := zE_8 ++ [.inr (0, 5)]
def zE_10 : List zDs := zE_9.set 3 (.inl (4, [(0, 0), (1, 4), (1, 5), (3, 0), (3, 0), (3, 0), (0, 0), (0, 0), (3, 0), (0, 0), (3, 0)]))
def zE_11 : List zDs := zE_10 ++ [.inr (0, 5)]
def zE_12 : List zDs := zE_11.set 3 (.inl (4, [(0, 0), (1, 4), (1, 5), (1, 6), (3, 0), (3, 0), (0, 0), (0, 0), (3, 0), (0, 0), (3, 0)]))
def zE_13 : List zDs := zE_12 ++ [.inr (1, 30)]
def zE_14 : List zDs := zE_13.set 3 (.inl (4, [(0, 0), (1, 4), (1, 5), (1, 6), (1, 7), (3, 0), (0, 0), (0, 0), (3, 0), (0, 0), (3, 0)]))
def zE_15 : List zDs := zE_14 ++ [.inr (0, 5)]
def zE_16 : List zDs := zE_15.set 3 (.inl (4, [(0, 0), (1, 4), (1, 5), (1, 6), (1, 7), (1, 8), (0, 0), (0, 0), (3, 0), (0, 0), (3, 0)]))
def zE_17 : List zDs := zE_16 ++ [.inr (0, 30)]
def zE_18 : List zDs := zE_17.set 3 (.inl (4, [(0, 0), (1, 4), (1, 5), (1, 6), (1, 7), (1, 8), (0, 0), (0, 0), (1, 9), (0, 0), (3, 0)]))
def zE_19 : List zDs := zE_18 ++ [.inr (0, 40)]
def zE_20 : List zDs := zE_19.set 3 (.inl (4, [(0, 0), (1, 4), (1, 5), (1, 6), (1, 7), (1, 8), (0, 0), (0, 0), (1, 9), (0, 0), (1, 10)]))
set_option maxHeartbeats 400000 in
set_option maxRecDepth 100000 in
theorem ti_X6_init_3 {l : Launch} (hl0 : l.flags = flags0) : zC l yX6_init cX6_init 1 none 0 7 120 [.ref 3] zE_6 zS0 (.inl none, zE_20, (zi zS0 3 6 (-1 : Int32))) := by
  refine zC_of hl0 rfl (Nat.le_of_ble_eq_true rfl) (fun x hG hxl hk hnam => ?_)
  subst hxl
  show zK x 0 0 [(0, .ref 3)] [] zE_6 zS0 7 120
  refine z_aload_n (pc := 0) hG 0 rfl rfl dX6_init_0 ?_
  refine z_objinit (pc := 1) hG w531 w67 w_oin (Nat.le_of_ble_eq_true rfl) dX6_init_1 ?_
  refine z_aload_n (pc := 4) hG 0 rfl rfl dX6_init_4 ?_
  refine z_iconst (pc := 5) hG kc_5 dX6_init_5 ?_
  refine z_newa (A' := 6) (B' := 115) (atype := .int) (t := 0) (N := 5) (z := (5, .inl (fun _ => 0))) (pc := 6) hG wa_int rfl (fun _ => rfl) rfl (fun _ _ => Iff.rfl) (i := 4) (by decide +kernel) (by decide) (by decide +kernel) (fun _ _ => rfl) (fun _ => rfl) (by decide) rfl (Nat.le_of_ble_eq_true rfl) rfl rfl (dl' := zE_7) rfl rfl rfl dX6_init_6 ?_
  refine z_putrF (pc := 8) hG hnam zc_X6 inX6 tyX6 tyX6_ok nmX6 (i := 3) (fl := [(0, 0), (3, 0), (3, 0), (3, 0), (3, 0), (3, 0), (0, 0), (0, 0), (3, 0), (0, 0), (3, 0)]) (q := (1, 4)) (by decide +kernel) 1 (by decide) (by decide) rfl (fun _ => rfl) w538 rfl rfl (fun _ => rfl) (fun _ => rfl) (dl' := zE_8) rfl dX6_init_8 ?_
  refine z_aload_n (pc := 11) hG 0 rfl rfl dX6_init_11 ?_
  refine z_iconst (pc := 12) hG kc_5 dX6_init_12 ?_
  refine z_newa (A' := 5) (B' := 110) (atype := .int) (t := 0) (N := 5) (z := (5, .inl (fun _ => 0))) (pc := 13) hG wa_int rfl (fun _ => rfl) rfl (fun _ _ => Iff.rfl) (i := 5) (by decide +kernel) (by decide) (by decide +kernel) (fun _ _ => rfl) (fun _ => rfl) (by decide) rfl (Nat.le_of_ble_eq_true rfl) rfl rfl (dl' := zE_9) rfl rfl rfl dX6_init_13 ?_
  refine z_putrF (pc := 15) hG hnam zc_X6 inX6 tyX6 tyX6_ok nmX6 (i := 3) (fl := [(0, 0), (1, 4), (3, 0), (3, 0), (3, 0), (3, 0), (0, 0), (0, 0), (3, 0), (0, 0), (3, 0)]) (q := (1, 5)) (by decide +kernel) 2 (by decide) (by decide) rfl (fun _ => rfl) w543 rfl rfl (fun _ => rfl) (fun _ => rfl) (dl' := zE_10) rfl dX6_init_15 ?_
  refine z_aload_n (pc := 18) hG 0 rfl rfl dX6_init_18 ?_
  refine z_iconst (pc := 19) hG kc_5 dX6_init_19 ?_
  refine z_newa (A' := 4) (B' := 105) (atype := .int) (t := 0) (N := 5) (z := (5, .inl (fun _ => 0))) (pc := 20) hG wa_int rfl (fun _ => rfl) rfl (fun _ _ => Iff.rfl) (i := 6) (by decide +kernel) (by decide) (by decide +kernel) (fun _ _ => rfl) (fun _ => rfl) (by decide) rfl (Nat.le_of_ble_eq_true rfl) rfl rfl (dl' := zE_11) rfl rfl rfl dX6_init_20 ?_
  refine z_putrF (pc := 22) hG hnam zc_X6 inX6 tyX6 tyX6_ok nmX6 (i := 3) (fl := [(0, 0), (1, 4), (1, 5), (3, 0), (3, 0), (3, 0), (0, 0), (0, 0), (3, 0), (0, 0), (3, 0)]) (q := (1, 6)) (by decide +kernel) 3 (by decide) (by decide) rfl (fun _ => rfl) w546 rfl rfl (fun _ => rfl) (fun _ => rfl) (dl' := zE_12) rfl dX6_init_22 ?_
  refine z_aload_n (pc := 25) hG 0 rfl rfl dX6_init_25 ?_
  refine z_bipush (pc := 26) hG kb_30 dX6_init_26 ?_
  refine z_newa (A' := 3) (B' := 75) (atype := .byte) (t := 1) (N := 30) (z := (30, .inl (fun _ => 0))) (pc := 28) hG wa_byte rfl (fun _ => rfl) rfl (fun _ _ => Iff.rfl) (i := 7) (by decide +kernel) (by decide) (by decide +kernel) (fun _ _ => rfl) (fun _ => rfl) (by decide) rfl (Nat.le_of_ble_eq_true rfl) rfl rfl (dl' := zE_13) rfl rfl rfl dX6_init_28 ?_
  refine z_putrF (pc := 30) hG hnam zc_X6 inX6 tyX6 tyX6_ok nmX6 (i := 3) (fl := [(0, 0), (1, 4), (1, 5), (1, 6), (3, 0), (3, 0), (0, 0), (0, 0), (3, 0), (0, 0), (3, 0)]) (q := (1, 7)) (by decide +kernel) 4 (by decide) (by decide) rfl (fun _ => rfl) w549 rfl rfl (fun _ => rfl) (fun _ => rfl) (dl' := zE_14) rfl dX6_init_30 ?_
  refine z_aload_n (pc := 33) hG 0 rfl rfl dX6_init_33 ?_
  refine z_iconst (pc := 34) hG kc_5 dX6_init_34 ?_
  refine z_newa (A' := 2) (B' := 70) (atype := .int) (t := 0) (N := 5) (z := (5, .inl (fun _ => 0))) (pc := 35) hG wa_int rfl (fun _ => rfl) rfl (fun _ _ => Iff.rfl) (i := 8) (by decide +kernel) (by decide) (by decide +kernel) (fun _ _ => rfl) (fun _ => rfl) (by decide) rfl (Nat.le_of_ble_eq_true rfl) rfl rfl (dl' := zE_15) rfl rfl rfl dX6_init_35 ?_
  refine z_putrF (pc := 37) hG hnam zc_X6 inX6 tyX6 tyX6_ok nmX6 (i := 3) (fl := [(0, 0), (1, 4), (1, 5), (1, 6), (1, 7), (3, 0), (0, 0), (0, 0), (3, 0), (0, 0), (3, 0)]) (q := (1, 8)) (by decide +kernel) 5 (by decide) (by decide) rfl (fun _ => rfl) w551 rfl rfl (fun _ => rfl) (fun _ => rfl) (dl' := zE_16) rfl dX6_init_37 ?_
  refine z_aload_n (pc := 40) hG 0 rfl rfl dX6_init_40 ?_
  refine z_iconst (pc := 41) hG kc_m1 dX6_init_41 ?_
  refine z_puti (pc := 42) hG zc_X6 inX6 tyX6 tyX6_ok nmX6 (i := 3) (fl := [(0, 0), (1, 4), (1, 5), (1, 6), (1, 7), (1, 8), (0, 0), (0, 0), (3, 0), (0, 0), (3, 0)]) (by decide +kernel) 6 rfl (by decide) rfl w553 rfl rfl rfl dX6_init_42 ?_
  refine z_aload_n (pc := 45) hG 0 rfl rfl dX6_init_45 ?_
  refine z_bipush (pc := 46) hG kb_30 dX6_init_46 ?_
  refine z_newa (A' := 1) (B' := 40) (atype := .int) (t := 0) (N := 30) (z := (30, .inl (fun _ => 0))) (pc := 48) hG wa_int rfl (fun _ => rfl) rfl (fun _ _ => Iff.rfl) (i := 9) (by decide +kernel) (by decide) (by decide +kernel) (fun _ _ => rfl) (fun _ => rfl) (by decide) rfl (Nat.le_of_ble_eq_true rfl) rfl rfl (dl' := zE_17) rfl rfl rfl dX6_init_48 ?_
  refine z_putrF (pc := 50) hG hnam zc_X6 inX6 tyX6 tyX6_ok nmX6 (i := 3) (fl := [(0, 0), (1, 4), (1, 5), (1, 6), (1, 7), (1, 8), (0, 0), (0, 0), (3, 0), (0, 0), (3, 0)]) (q := (1, 9)) (by decide +kernel) 8 (by decide) (by decide) rfl (fun _ => rfl) w561 rfl rfl (fun _ => rfl) (fun _ => rfl) (dl' := zE_18) rfl dX6_init_50 ?_
  refine z_aload_n (pc := 53) hG 0 rfl rfl dX6_init_53 ?_
  refine z_bipush (pc := 54) hG kb_40 dX6_init_54 ?_
  refine z_newa (A' := 0) (B' := 0) (atype := .int) (t := 0) (N := 40) (z := (40, .inl (fun _ => 0))) (pc := 56) hG wa_int rfl (fun _ => rfl) rfl (fun _ _ => Iff.rfl) (i := 10) (by decide +kernel) (by decide) (by decide +kernel) (fun _ _ => rfl) (fun _ => rfl) (by decide) rfl (Nat.le_of_ble_eq_true rfl) rfl rfl (dl' := zE_19) rfl rfl rfl dX6_init_56 ?_
  refine z_putrF (pc := 58) hG hnam zc_X6 inX6 tyX6 tyX6_ok nmX6 (i := 3) (fl := [(0, 0), (1, 4), (1, 5), (1, 6), (1, 7), (1, 8), (0, 0), (0, 0), (1, 9), (0, 0), (3, 0)]) (q := (1, 10)) (by decide +kernel) 10 (by decide) (by decide) rfl (fun _ => rfl) w566 rfl rfl (fun _ => rfl) (fun _ => rfl) (dl' := zE_20) rfl dX6_init_58 ?_
  exact z_vret (pc := 61) hG rfl hk dX6_init_61
def zE_21 : List zDs := zE_20.set 0 (.inl (8, [(1, 1), (1, 3), (3, 0), (3, 0), (3, 0), (3, 0), (3, 0), (3, 0), (3, 0), (3, 0), (3, 0), (0, 0), (0, 0)]))
def zE_22 : List zDs := zE_21 ++ [.inl (4, [(0, 0), (3, 0), (3, 0), (3, 0), (3, 0), (3, 0), (0, 0), (0, 0), (3, 0), (0, 0), (3, 0)])]
def zE_23 : List zDs := zE_22 ++ [.inr (0, 5)]
def zE_24 : List zDs := zE_23.set 11 (.inl (4, [(0, 0), (1, 12), (3, 0), (3, 0), (3, 0), (3, 0), (0, 0), (0, 0), (3, 0), (0, 0), (3, 0)]))
def zE_25 : List zDs := zE_24 ++ [.inr (0, 5)]
def zE_26 : List zDs := zE_25.set 11 (.inl (4, [(0, 0), (1, 12), (1, 13), (3, 0), (3, 0), (3, 0), (0, 0), (0, 0), (3, 0), (0, 0), (3, 0)]))
def zE_27 : List zDs := zE_26 ++ [.inr (0, 5)]
def zE_28 : List zDs := zE_27.set 11 (.inl (4, [(0, 0), (1, 12), (1, 13), (1, 14), (3, 0), (3, 0), (0, 0), (0, 0), (3, 0), (0, 0), (3, 0)]))
def zE_29 : List zDs := zE_28 ++ [.inr (1, 30)]
def zE_30 : List zDs := zE_29.set 11 (.inl (4, [(0, 0), (1, 12), (1, 13), (1, 14), (1, 15), (3, 0), (0, 0), (0, 0), (3, 0), (0, 0), (3, 0)]))
def zE_31 : List zDs := zE_30 ++ [.inr (0, 5)]
def zE_32 : List zDs := zE_31.set 11 (.inl (4, [(0, 0), (1, 12), (1, 13), (1, 14), (1, 15), (1, 16), (0, 0), (0, 0), (3, 0), (0, 0), (3, 0)]))
def zE_33 : List zDs := zE_32 ++ [.inr (0, 30)]
def zE_34 : List zDs := zE_33.set 11 (.inl (4, [(0, 0), (1, 12), (1, 13), (1, 14), (1, 15), (1, 16), (0, 0), (0, 0), (1, 17), (0, 0), (3, 0)]))
def zE_35 : List zDs := zE_34 ++ [.inr (0, 40)]
def zE_36 : List zDs := zE_35.set 11 (.inl (4, [(0, 0), (1, 12), (1, 13), (1, 14), (1, 15), (1, 16), (0, 0), (0, 0), (1, 17), (0, 0), (1, 18)]))
set_option maxHeartbeats 400000 in
set_option maxRecDepth 100000 in
theorem ti_X6_init_11 {l : Launch} (hl0 : l.flags = flags0) : zC l yX6_init cX6_init 1 none 0 7 120 [.ref 11] zE_22 (zi zS0 3 6 (-1 : Int32)) (.inl none, zE_36, (zi (zi zS0 3 6 (-1 : Int32)) 11 6 (-1 : Int32))) := by
  refine zC_of hl0 rfl (Nat.le_of_ble_eq_true rfl) (fun x hG hxl hk hnam => ?_)
  subst hxl
  show zK x 0 0 [(0, .ref 11)] [] zE_22 (zi zS0 3 6 (-1 : Int32)) 7 120
  refine z_aload_n (pc := 0) hG 0 rfl rfl dX6_init_0 ?_
  refine z_objinit (pc := 1) hG w531 w67 w_oin (Nat.le_of_ble_eq_true rfl) dX6_init_1 ?_
  refine z_aload_n (pc := 4) hG 0 rfl rfl dX6_init_4 ?_
  refine z_iconst (pc := 5) hG kc_5 dX6_init_5 ?_
  refine z_newa (A' := 6) (B' := 115) (atype := .int) (t := 0) (N := 5) (z := (5, .inl (fun _ => 0))) (pc := 6) hG wa_int rfl (fun _ => rfl) rfl (fun _ _ => Iff.rfl) (i := 12) (by decide +kernel) (by decide) (by decide +kernel) (fun _ _ => rfl) (fun _ => rfl) (by decide) rfl (Nat.le_of_ble_eq_true rfl) rfl rfl (dl' := zE_23) rfl rfl rfl dX6_init_6 ?_
  refine z_putrF (pc := 8) hG hnam zc_X6 inX6 tyX6 tyX6_ok nmX6 (i := 11) (fl := [(0, 0), (3, 0), (3, 0), (3, 0), (3, 0), (3, 0), (0, 0), (0, 0), (3, 0), (0, 0), (3, 0)]) (q := (1, 12)) (by decide +kernel) 1 (by decide) (by decide) rfl (fun _ => rfl) w538 rfl rfl (fun _ => rfl) (fun _ => rfl) (dl' := zE_24) rfl dX6_init_8 ?_
  refine z_aload_n (pc := 11) hG 0 rfl rfl dX6_init_11 ?_
  refine z_iconst (pc := 12) hG kc_5 dX6_init_12 ?_
  refine z_newa (A' := 5) (B' := 110) (atype := .int) (t := 0) (N := 5) (z := (5, .inl (fun _ => 0))) (pc := 13) hG wa_int rfl (fun _ => rfl) rfl (fun _ _ => Iff.rfl) (i := 13) (by decide +kernel) (by decide) (by decide +kernel) (fun _ _ => rfl) (fun _ => rfl) (by decide) rfl (Nat.le_of_ble_eq_true rfl) rfl rfl (dl' := zE_25) rfl rfl rfl dX6_init_13 ?_
  refine z_putrF (pc := 15) hG hnam zc_X6 inX6 tyX6 tyX6_ok nmX6 (i := 11) (fl := [(0, 0), (1, 12), (3, 0), (3, 0), (3, 0), (3, 0), (0, 0), (0, 0), (3, 0), (0, 0), (3, 0)]) (q := (1, 13)) (by decide +kernel) 2 (by decide) (by decide) rfl (fun _ => rfl) w543 rfl rfl (fun _ => rfl) (fun _ => rfl) (dl' := zE_26) rfl dX6_init_15 ?_
  refine z_aload_n (pc := 18) hG 0 rfl rfl dX6_init_18 ?_
  refine z_iconst (pc := 19) hG kc_5 dX6_init_19 ?_
  refine z_newa (A' := 4) (B' := 105) (atype := .int) (t := 0) (N := 5) (z := (5, .inl (fun _ => 0))) (pc := 20) hG wa_int rfl (fun _ => rfl) rfl (fun _ _ => Iff.rfl) (i := 14) (by decide +kernel) (by decide) (by decide +kernel) (fun _ _ => rfl) (fun _ => rfl) (by decide) rfl (Nat.le_of_ble_eq_true rfl) rfl rfl (dl' := zE_27) rfl rfl rfl dX6_init_20 ?_
  refine z_putrF (pc := 22) hG hnam zc_X6 inX6 tyX6 tyX6_ok nmX6 (i := 11) (fl := [(0, 0), (1, 12), (1, 13), (3, 0), (3, 0), (3, 0), (0, 0), (0, 0), (3, 0), (0, 0), (3, 0)]) (q := (1, 14)) (by decide +kernel) 3 (by decide) (by decide) rfl (fun _ => rfl) w546 rfl rfl (fun _ => rfl) (fun _ => rfl) (dl' := zE_28) rfl dX6_init_22 ?_
  refine z_aload_n (pc := 25) hG 0 rfl rfl dX6_init_25 ?_
  refine z_bipush (pc := 26) hG kb_30 dX6_init_26 ?_
  refine z_newa (A' := 3) (B' := 75) (atype := .byte) (t := 1) (N := 30) (z := (30, .inl (fun _ => 0))) (pc := 28) hG wa_byte rfl (fun _ => rfl) rfl (fun _ _ => Iff.rfl) (i := 15) (by decide +kernel) (by decide) (by decide +kernel) (fun _ _ => rfl) (fun _ => rfl) (by decide) rfl (Nat.le_of_ble_eq_true rfl) rfl rfl (dl' := zE_29) rfl rfl rfl dX6_init_28 ?_
  refine z_putrF (pc := 30) hG hnam zc_X6 inX6 tyX6 tyX6_ok nmX6 (i := 11) (fl := [(0, 0), (1, 12), (1, 13), (1, 14), (3, 0), (3, 0), (0, 0), (0, 0), (3, 0), (0, 0), (3, 0)]) (q := (1, 15)) (by decide +kernel) 4 (by decide) (by decide) rfl (fun _ => rfl) w549 rfl rfl (fun _ => rfl) (fun _ => rfl) (dl' := zE_30) rfl dX6_init_30 ?_
  refine z_aload_n (pc := 33) hG 0 rfl rfl dX6_init_33 ?_
  refine z_iconst (pc := 34) hG kc_5 dX6_init_34 ?_
  refine z_newa (A' := 2) (B' := 70) (atype := .int) (t := 0) (N := 5) (z := (5, .inl (fun _ => 0))) (pc := 35) hG wa_int rfl (fun _ => rfl) rfl (fun _ _ => Iff.rfl) (i := 16) (by decide +kernel) (by decide) (by decide +kernel) (fun _ _ => rfl) (fun _ => rfl) (by decide) rfl (Nat.le_of_ble_eq_true rfl) rfl rfl (dl' := zE_31) rfl rfl rfl dX6_init_35 ?_
  refine z_putrF (pc := 37) hG hnam zc_X6 inX6 tyX6 tyX6_ok nmX6 (i := 11) (fl := [(0, 0), (1, 12), (1, 13), (1, 14), (1, 15), (3, 0), (0, 0), (0, 0), (3, 0), (0, 0), (3, 0)]) (q := (1, 16)) (by decide +kernel) 5 (by decide) (by decide) rfl (fun _ => rfl) w551 rfl rfl (fun _ => rfl) (fun _ => rfl) (dl' := zE_32) rfl dX6_init_37 ?_
  refine z_aload_n (pc := 40) hG 0 rfl rfl dX6_init_40 ?_
  refine z_iconst (pc := 41) hG kc_m1 dX6_init_41 ?_
  refine z_puti (pc := 42) hG zc_X6 inX6 tyX6 tyX6_ok nmX6 (i := 11) (fl := [(0, 0), (1, 12), (1, 13), (1, 14), (1, 15), (1, 16), (0, 0), (0, 0), (3, 0), (0, 0), (3, 0)]) (by decide +kernel) 6 rfl (by decide) rfl w553 rfl rfl rfl dX6_init_42 ?_
  refine z_aload_n (pc := 45) hG 0 rfl rfl dX6_init_45 ?_
  refine z_bipush (pc := 46) hG kb_30 dX6_init_46 ?_
  refine z_newa (A' := 1) (B' := 40) (atype := .int) (t := 0) (N := 30) (z := (30, .inl (fun _ => 0))) (pc := 48) hG wa_int rfl (fun _ => rfl) rfl (fun _ _ => Iff.rfl) (i := 17) (by decide +kernel) (by decide) (by decide +kernel) (fun _ _ => rfl) (fun _ => rfl) (by decide) rfl (Nat.le_of_ble_eq_true rfl) rfl rfl (dl' := zE_33) rfl rfl rfl dX6_init_48 ?_
  refine z_putrF (pc := 50) hG hnam zc_X6 inX6 tyX6 tyX6_ok nmX6 (i := 11) (fl := [(0, 0), (1, 12), (1, 13), (1, 14), (1, 15), (1, 16), (0, 0), (0, 0), (3, 0), (0, 0), (3, 0)]) (q := (1, 17)) (by decide +kernel) 8 (by decide) (by decide) rfl (fun _ => rfl) w561 rfl rfl (fun _ => rfl) (fun _ => rfl) (dl' := zE_34) rfl dX6_init_50 ?_
  refine z_aload_n (pc := 53) hG 0 rfl rfl dX6_init_53 ?_
  refine z_bipush (pc := 54) hG kb_40 dX6_init_54 ?_
  refine z_newa (A' := 0) (B' := 0) (atype := .int) (t := 0) (N := 40) (z := (40, .inl (fun _ => 0))) (pc := 56) hG wa_int rfl (fun _ => rfl) rfl (fun _ _ => Iff.rfl) (i := 18) (by decide +kernel) (by decide) (by decide +kernel) (fun _ _ => rfl) (fun _ => rfl) (by decide) rfl (Nat.le_of_ble_eq_true rfl) rfl rfl (dl' := zE_35) rfl rfl rfl dX6_init_56 ?_
  refine z_putrF (pc := 58) hG hnam zc_X6 inX6 tyX6 tyX6_ok nmX6 (i := 11) (fl := [(0, 0), (1, 12), (1, 13), (1, 14), (1, 15), (1, 16), (0, 0), (0, 0), (1, 17), (0, 0), (3, 0)]) (q := (1, 18)) (by decide +kernel) 10 (by decide) (by decide) rfl (fun _ => rfl) w566 rfl rfl (fun _ => rfl) (fun _ => rfl) (dl' := zE_36) rfl dX6_init_58 ?_
  exact z_vret (pc := 61) hG rfl hk dX6_init_61
def zE_37 : List zDs := zE_36.set 0 (.inl (8, [(1, 1), (1, 3), (1, 11), (3, 0), (3, 0), (3, 0), (3, 0), (3, 0), (3, 0), (3, 0), (3, 0), (0, 0), (0, 0)]))
def zE_38 : List zDs := zE_37 ++ [.inl (5, [(3, 0), (3, 0), (0, 0), (0, 0), (0, 0)])]
def zE_39 : List zDs := zE_38.set 19 (.inl (5, [(1, 1), (3, 0), (0, 0), (0, 0), (0, 0)]))
def zE_40 : List zDs := zE_39.set 19 (.inl (5, [(1, 1), (1, 11), (0, 0), (0, 0), (0, 0)]))
set_option maxHeartbeats 400000 in
set_option maxRecDepth 100000 in
theorem ti_X7_init_19 {l : Launch} (hl0 : l.flags = flags0) : zC l yX7_init cX7_init 3 none 0 0 0 [.ref 19, .ref 1, .ref 11] zE_38 (zi (zi zS0 3 6 (-1 : Int32)) 11 6 (-1 : Int32)) (.inl none, zE_40, (zi (zi zS0 3 6 (-1 : Int32)) 11 6 (-1 : Int32))) := by
  refine zC_of hl0 rfl (Nat.le_of_ble_eq_true rfl) (fun x hG hxl hk hnam => ?_)
  subst hxl
  show zK x 0 0 [(0, .ref 19), (1, .ref 1), (2, .ref 11)] [] zE_38 (zi (zi zS0 3 6 (-1 : Int32)) 11 6 (-1 : Int32)) 0 0
  refine z_aload_n (pc := 0) hG 0 rfl rfl dX7_init_0 ?_
  refine z_objinit (pc := 1) hG w597 w67 w_oin (Nat.le_of_ble_eq_true rfl) dX7_init_1 ?_
  refine z_aload_n (pc := 4) hG 0 rfl rfl dX7_init_4 ?_
  refine z_aload_n (pc := 5) hG 1 rfl rfl dX7_init_5 ?_
  refine z_putrF (pc := 6) hG hnam zc_X7 inX7 tyX7 tyX7_ok nmX7 (i := 19) (fl := [(3, 0), (3, 0), (0, 0), (0, 0), (0, 0)]) (q := (1, 1)) (by decide +kernel) 0 (by decide) (by decide) rfl (fun _ => rfl) w598 rfl rfl (fun _ => rfl) (fun _ => rfl) (dl' := zE_39) rfl dX7_init_6 ?_
  refine z_aload_n (pc := 9) hG 0 rfl rfl dX7_init_9 ?_
  refine z_aload_n (pc := 10) hG 2 rfl rfl dX7_init_10 ?_
  refine z_putrF (pc := 11) hG hnam zc_X7 inX7 tyX7 tyX7_ok nmX7 (i := 19) (fl := [(1, 1), (3, 0), (0, 0), (0, 0), (0, 0)]) (q := (1, 11)) (by decide +kernel) 1 (by decide) (by decide) rfl (fun _ => rfl) w599 rfl rfl (fun _ => rfl) (fun _ => rfl) (dl' := zE_40) rfl dX7_init_11 ?_
  exact z_vret (pc := 14) hG rfl hk dX7_init_14
def zE_41 : List zDs := zE_40.set 0 (.inl (8, [(1, 1), (1, 3), (1, 11), (1, 19), (3, 0), (3, 0), (3, 0), (3, 0), (3, 0), (3, 0), (3, 0), (0, 0), (0, 0)]))
def zE_42 : List zDs := zE_41 ++ [.inl (3, [(3, 0), (3, 0), (3, 0), (3, 0), (3, 0), (3, 0), (0, 0)])]
def zE_43 : List zDs := zE_42 ++ [.inr (0, 30)]
def zE_44 : List zDs := zE_43.set 20 (.inl (3, [(3, 0), (1, 21), (3, 0), (3, 0), (3, 0), (3, 0), (0, 0)]))
def zE_45 : List zDs := zE_44 ++ [.inr (0, 32)]
def zE_46 : List zDs := zE_45.set 20 (.inl (3, [(3, 0), (1, 21), (1, 22), (3, 0), (3, 0), (3, 0), (0, 0)]))
def zE_47 : List zDs := zE_46 ++ [.inr (3, 32)]
def zE_48 : List zDs := zE_47.set 20 (.inl (3, [(3, 0), (1, 21), (1, 22), (1, 23), (3, 0), (3, 0), (0, 0)]))
def zE_49 : List zDs := zE_48 ++ [.inr (0, 64)]
def zE_50 : List zDs := zE_49.set 20 (.inl (3, [(3, 0), (1, 21), (1, 22), (1, 23), (1, 24), (3, 0), (0, 0)]))
def zE_51 : List zDs := zE_50 ++ [.inr (0, 64)]
def zE_52 : List zDs := zE_51.set 20 (.inl (3, [(3, 0), (1, 21), (1, 22), (1, 23), (1, 24), (2, 1), (0, 0)]))
def zE_53 : List zDs := zE_52.set 20 (.inl (3, [(3, 0), (1, 21), (1, 22), (1, 23), (2, 0), (2, 1), (0, 0)]))
def zE_54 : List zDs := zE_53.set 20 (.inl (3, [(1, 3), (1, 21), (1, 22), (1, 23), (2, 0), (2, 1), (0, 0)]))
set_option maxHeartbeats 400000 in
set_option maxRecDepth 100000 in
theorem ti_X5_init_20 {l : Launch} (hl0 : l.flags = flags0) : zC l yX5_init cX5_init 2 none 0 5 222 [.ref 20, .ref 3] zE_42 (zi (zi zS0 3 6 (-1 : Int32)) 11 6 (-1 : Int32)) (.inl none, zE_54, (zi (zi zS0 3 6 (-1 : Int32)) 11 6 (-1 : Int32))) := by
  refine zC_of hl0 rfl (Nat.le_of_ble_eq_true rfl) (fun x hG hxl hk hnam => ?_)
  subst hxl
  show zK x 0 0 [(0, .ref 20), (1, .ref 3)] [] zE_42 (zi (zi zS0 3 6 (-1 : Int32)) 11 6 (-1 : Int32)) 5 222
  refine z_aload_n (pc := 0) hG 0 rfl rfl dX5_init_0 ?_
  refine z_objinit (pc := 1) hG w618 w67 w_oin (Nat.le_of_ble_eq_true rfl) dX5_init_1 ?_
  refine z_aload_n (pc := 4) hG 0 rfl rfl dX5_init_4 ?_
  refine z_bipush (pc := 5) hG kb_30 dX5_init_5 ?_
  refine z_newa (A' := 4) (B' := 192) (atype := .int) (t := 0) (N := 30) (z := (30, .inl (fun _ => 0))) (pc := 7) hG wa_int rfl (fun _ => rfl) rfl (fun _ _ => Iff.rfl) (i := 21) (by decide +kernel) (by decide) (by decide +kernel) (fun _ _ => rfl) (fun _ => rfl) (by decide) rfl (Nat.le_of_ble_eq_true rfl) rfl rfl (dl' := zE_43) rfl rfl rfl dX5_init_7 ?_
  refine z_putrF (pc := 9) hG hnam zc_X5 inX5 tyX5 tyX5_ok nmX5 (i := 20) (fl := [(3, 0), (3, 0), (3, 0), (3, 0), (3, 0), (3, 0), (0, 0)]) (q := (1, 21)) (by decide +kernel) 1 (by decide) (by decide) rfl (fun _ => rfl) w620 rfl rfl (fun _ => rfl) (fun _ => rfl) (dl' := zE_44) rfl dX5_init_9 ?_
  refine z_aload_n (pc := 12) hG 0 rfl rfl dX5_init_12 ?_
  refine z_bipush (pc := 13) hG kb_32 dX5_init_13 ?_
  refine z_newa (A' := 3) (B' := 160) (atype := .int) (t := 0) (N := 32) (z := (32, .inl (fun _ => 0))) (pc := 15) hG wa_int rfl (fun _ => rfl) rfl (fun _ _ => Iff.rfl) (i := 22) (by decide +kernel) (by decide) (by decide +kernel) (fun _ _ => rfl) (fun _ => rfl) (by decide) rfl (Nat.le_of_ble_eq_true rfl) rfl rfl (dl' := zE_45) rfl rfl rfl dX5_init_15 ?_
  refine z_putrF (pc := 17) hG hnam zc_X5 inX5 tyX5 tyX5_ok nmX5 (i := 20) (fl := [(3, 0), (1, 21), (3, 0), (3, 0), (3, 0), (3, 0), (0, 0)]) (q := (1, 22)) (by decide +kernel) 2 (by decide) (by decide) rfl (fun _ => rfl) w621 rfl rfl (fun _ => rfl) (fun _ => rfl) (dl' := zE_46) rfl dX5_init_17 ?_
  refine z_aload_n (pc := 20) hG 0 rfl rfl dX5_init_20 ?_
  refine z_bipush (pc := 21) hG kb_32 dX5_init_21 ?_
  refine z_newa (A' := 2) (B' := 128) (atype := .long) (t := 3) (N := 32) (z := (32, .inr (.inl (fun _ => 0)))) (pc := 23) hG wa_long rfl (fun _ => rfl) rfl (fun _ _ => Iff.rfl) (i := 23) (by decide +kernel) (by decide) (by decide +kernel) (fun _ _ => rfl) (fun _ => rfl) (by decide) rfl (Nat.le_of_ble_eq_true rfl) rfl rfl (dl' := zE_47) rfl rfl rfl dX5_init_23 ?_
  refine z_putrF (pc := 25) hG hnam zc_X5 inX5 tyX5 tyX5_ok nmX5 (i := 20) (fl := [(3, 0), (1, 21), (1, 22), (3, 0), (3, 0), (3, 0), (0, 0)]) (q := (1, 23)) (by decide +kernel) 3 (by decide) (by decide) rfl (fun _ => rfl) w622 rfl rfl (fun _ => rfl) (fun _ => rfl) (dl' := zE_48) rfl dX5_init_25 ?_
  refine z_aload_n (pc := 28) hG 0 rfl rfl dX5_init_28 ?_
  refine z_bipush (pc := 29) hG kb_64 dX5_init_29 ?_
  refine z_newa (A' := 1) (B' := 64) (atype := .int) (t := 0) (N := 64) (z := (64, .inl (fun _ => 0))) (pc := 31) hG wa_int rfl (fun _ => rfl) rfl (fun _ _ => Iff.rfl) (i := 24) (by decide +kernel) (by decide) (by decide +kernel) (fun _ _ => rfl) (fun _ => rfl) (by decide) rfl (Nat.le_of_ble_eq_true rfl) rfl rfl (dl' := zE_49) rfl rfl rfl dX5_init_31 ?_
  refine z_putr (pc := 33) hG zc_X5 inX5 tyX5 tyX5_ok nmX5 (i := 20) (fl := [(3, 0), (1, 21), (1, 22), (1, 23), (3, 0), (3, 0), (0, 0)]) (q := (1, 24)) (by decide +kernel) 4 (by decide) (by decide) rfl (fun _ => rfl) w623 rfl (fun _ => rfl) (fun _ => rfl) (dl' := zE_50) rfl dX5_init_33 ?_
  refine z_aload_n (pc := 36) hG 0 rfl rfl dX5_init_36 ?_
  refine z_bipush (pc := 37) hG kb_64 dX5_init_37 ?_
  refine z_newa (A' := 0) (B' := 0) (atype := .int) (t := 0) (N := 64) (z := (64, .inl (fun _ => 0))) (pc := 39) hG wa_int rfl (fun _ => rfl) rfl (fun _ _ => Iff.rfl) (i := 25) (by decide +kernel) (by decide) (by decide +kernel) (fun _ _ => rfl) (fun _ => rfl) (by decide) rfl (Nat.le_of_ble_eq_true rfl) rfl rfl (dl' := zE_51) rfl rfl rfl dX5_init_39 ?_
  refine z_putr (pc := 41) hG zc_X5 inX5 tyX5 tyX5_ok nmX5 (i := 20) (fl := [(3, 0), (1, 21), (1, 22), (1, 23), (1, 24), (3, 0), (0, 0)]) (q := (2, 1)) (by decide +kernel) 5 (by decide) (by decide) rfl (fun _ => rfl) w624 rfl (fun _ => rfl) (fun _ => rfl) (dl' := zE_52) rfl dX5_init_41 ?_
  refine z_redesc (i := 20) (d := .inl (3, [(3, 0), (1, 21), (1, 22), (1, 23), (1, 24), (2, 1), (0, 0)])) (d' := .inl (3, [(3, 0), (1, 21), (1, 22), (1, 23), (2, 0), (2, 1), (0, 0)])) (by decide +kernel) (fun _ _ => rfl) (dl' := zE_53) rfl ?_
  refine z_aload_n (pc := 44) hG 0 rfl rfl dX5_init_44 ?_
  refine z_aload_n (pc := 45) hG 1 rfl rfl dX5_init_45 ?_
  refine z_putrF (pc := 46) hG hnam zc_X5 inX5 tyX5 tyX5_ok nmX5 (i := 20) (fl := [(3, 0), (1, 21), (1, 22), (1, 23), (2, 0), (2, 1), (0, 0)]) (q := (1, 3)) (by decide +kernel) 0 (by decide) (by decide) rfl (fun _ => rfl) w619 rfl rfl (fun _ => rfl) (fun _ => rfl) (dl' := zE_54) rfl dX5_init_46 ?_
  exact z_vret (pc := 49) hG rfl hk dX5_init_49
def zE_55 : List zDs := zE_54.set 0 (.inl (8, [(1, 1), (1, 3), (1, 11), (1, 19), (1, 20), (3, 0), (3, 0), (3, 0), (3, 0), (3, 0), (3, 0), (0, 0), (0, 0)]))
def zE_56 : List zDs := zE_55 ++ [.inl (0, [(3, 0), (3, 0), (3, 0), (0, 0), (0, 0), (3, 0), (3, 0), (3, 0)])]
def zE_57 : List zDs := zE_56 ++ [.inr (4, 64)]
def zE_58 : List zDs := zE_57.set 26 (.inl (0, [(3, 0), (3, 0), (1, 27), (0, 0), (0, 0), (3, 0), (3, 0), (3, 0)]))
def zE_59 : List zDs := zE_58 ++ [.inr (0, 5)]
def zE_60 : List zDs := zE_59.set 26 (.inl (0, [(3, 0), (3, 0), (1, 27), (0, 0), (0, 0), (1, 28), (3, 0), (3, 0)]))
def zE_61 : List zDs := zE_60 ++ [.inr (3, 6)]
def zE_62 : List zDs := zE_61.set 26 (.inl (0, [(3, 0), (3, 0), (1, 27), (0, 0), (0, 0), (1, 28), (1, 29), (3, 0)]))
def zE_63 : List zDs := zE_62 ++ [.inr (3, 25)]
def zE_64 : List zDs := zE_63.set 26 (.inl (0, [(3, 0), (3, 0), (1, 27), (0, 0), (0, 0), (1, 28), (1, 29), (1, 30)]))
def zE_65 : List zDs := zE_64.set 26 (.inl (0, [(1, 3), (3, 0), (1, 27), (0, 0), (0, 0), (1, 28), (1, 29), (1, 30)]))
def zE_66 : List zDs := zE_65.set 26 (.inl (0, [(1, 3), (1, 20), (1, 27), (0, 0), (0, 0), (1, 28), (1, 29), (1, 30)]))
set_option maxHeartbeats 400000 in
set_option maxRecDepth 100000 in
theorem ti_X0_init_26 {l : Launch} (hl0 : l.flags = flags0) : zC l yX0_init cX0_init 3 none 0 4 100 [.ref 26, .ref 3, .ref 20] zE_56 (zi (zi zS0 3 6 (-1 : Int32)) 11 6 (-1 : Int32)) (.inl none, zE_66, (zi (zi zS0 3 6 (-1 : Int32)) 11 6 (-1 : Int32))) := by
  refine zC_of hl0 rfl (Nat.le_of_ble_eq_true rfl) (fun x hG hxl hk hnam => ?_)
  subst hxl
  show zK x 0 0 [(0, .ref 26), (1, .ref 3), (2, .ref 20)] [] zE_56 (zi (zi zS0 3 6 (-1 : Int32)) 11 6 (-1 : Int32)) 4 100
  refine z_aload_n (pc := 0) hG 0 rfl rfl dX0_init_0 ?_
  refine z_objinit (pc := 1) hG w647 w67 w_oin (Nat.le_of_ble_eq_true rfl) dX0_init_1 ?_
  refine z_aload_n (pc := 4) hG 0 rfl rfl dX0_init_4 ?_
  refine z_bipush (pc := 5) hG kb_64 dX0_init_5 ?_
  refine z_newa (A' := 3) (B' := 36) (atype := .int) (t := 0) (N := 64) (z := (64, .inl (fun _ => 0))) (pc := 7) hG wa_int rfl (fun _ => rfl) rfl (fun _ _ => Iff.rfl) (i := 27) (by decide +kernel) (by decide) (by decide +kernel) (fun _ _ => rfl) (fun _ => rfl) (by decide) rfl (Nat.le_of_ble_eq_true rfl) rfl rfl (dl' := zE_57) rfl rfl rfl dX0_init_7 ?_
  refine z_putr (pc := 9) hG zc_X0 inX0 tyX0 tyX0_ok nmX0 (i := 26) (fl := [(3, 0), (3, 0), (3, 0), (0, 0), (0, 0), (3, 0), (3, 0), (3, 0)]) (q := (1, 27)) (by decide +kernel) 2 (by decide) (by decide) rfl (fun _ => rfl) w650 rfl (fun _ => rfl) (fun _ => rfl) (dl' := zE_58) rfl dX0_init_9 ?_
  refine z_aload_n (pc := 12) hG 0 rfl rfl dX0_init_12 ?_
  refine z_iconst (pc := 13) hG kc_5 dX0_init_13 ?_
  refine z_newa (A' := 2) (B' := 31) (atype := .int) (t := 0) (N := 5) (z := (5, .inl (fun _ => 0))) (pc := 14) hG wa_int rfl (fun _ => rfl) rfl (fun _ _ => Iff.rfl) (i := 28) (by decide +kernel) (by decide) (by decide +kernel) (fun _ _ => rfl) (fun _ => rfl) (by decide) rfl (Nat.le_of_ble_eq_true rfl) rfl rfl (dl' := zE_59) rfl rfl rfl dX0_init_14 ?_
  refine z_putrF (pc := 16) hG hnam zc_X0 inX0 tyX0 tyX0_ok nmX0 (i := 26) (fl := [(3, 0), (3, 0), (1, 27), (0, 0), (0, 0), (3, 0), (3, 0), (3, 0)]) (q := (1, 28)) (by decide +kernel) 5 (by decide) (by decide) rfl (fun _ => rfl) w653 rfl rfl (fun _ => rfl) (fun _ => rfl) (dl' := zE_60) rfl dX0_init_16 ?_
  refine z_aload_n (pc := 19) hG 0 rfl rfl dX0_init_19 ?_
  refine z_bipush (pc := 20) hG kb_6 dX0_init_20 ?_
  refine z_newa (A' := 1) (B' := 25) (atype := .long) (t := 3) (N := 6) (z := (6, .inr (.inl (fun _ => 0)))) (pc := 22) hG wa_long rfl (fun _ => rfl) rfl (fun _ _ => Iff.rfl) (i := 29) (by decide +kernel) (by decide) (by decide +kernel) (fun _ _ => rfl) (fun _ => rfl) (by decide) rfl (Nat.le_of_ble_eq_true rfl) rfl rfl (dl' := zE_61) rfl rfl rfl dX0_init_22 ?_
  refine z_putrF (pc := 24) hG hnam zc_X0 inX0 tyX0 tyX0_ok nmX0 (i := 26) (fl := [(3, 0), (3, 0), (1, 27), (0, 0), (0, 0), (1, 28), (3, 0), (3, 0)]) (q := (1, 29)) (by decide +kernel) 6 (by decide) (by decide) rfl (fun _ => rfl) w654 rfl rfl (fun _ => rfl) (fun _ => rfl) (dl' := zE_62) rfl dX0_init_24 ?_
  refine z_aload_n (pc := 27) hG 0 rfl rfl dX0_init_27 ?_
  refine z_bipush (pc := 28) hG kb_25 dX0_init_28 ?_
  refine z_newa (A' := 0) (B' := 0) (atype := .long) (t := 3) (N := 25) (z := (25, .inr (.inl (fun _ => 0)))) (pc := 30) hG wa_long rfl (fun _ => rfl) rfl (fun _ _ => Iff.rfl) (i := 30) (by decide +kernel) (by decide) (by decide +kernel) (fun _ _ => rfl) (fun _ => rfl) (by decide) rfl (Nat.le_of_ble_eq_true rfl) rfl rfl (dl' := zE_63) rfl rfl rfl dX0_init_30 ?_
  refine z_putrF (pc := 32) hG hnam zc_X0 inX0 tyX0 tyX0_ok nmX0 (i := 26) (fl := [(3, 0), (3, 0), (1, 27), (0, 0), (0, 0), (1, 28), (1, 29), (3, 0)]) (q := (1, 30)) (by decide +kernel) 7 (by decide) (by decide) rfl (fun _ => rfl) w655 rfl rfl (fun _ => rfl) (fun _ => rfl) (dl' := zE_64) rfl dX0_init_32 ?_
  refine z_aload_n (pc := 35) hG 0 rfl rfl dX0_init_35 ?_
  refine z_aload_n (pc := 36) hG 1 rfl rfl dX0_init_36 ?_
  refine z_putrF (pc := 37) hG hnam zc_X0 inX0 tyX0 tyX0_ok nmX0 (i := 26) (fl := [(3, 0), (3, 0), (1, 27), (0, 0), (0, 0), (1, 28), (1, 29), (1, 30)]) (q := (1, 3)) (by decide +kernel) 0 (by decide) (by decide) rfl (fun _ => rfl) w648 rfl rfl (fun _ => rfl) (fun _ => rfl) (dl' := zE_65) rfl dX0_init_37 ?_
  refine z_aload_n (pc := 40) hG 0 rfl rfl dX0_init_40 ?_
  refine z_aload_n (pc := 41) hG 2 rfl rfl dX0_init_41 ?_
  refine z_putrF (pc := 42) hG hnam zc_X0 inX0 tyX0 tyX0_ok nmX0 (i := 26) (fl := [(1, 3), (3, 0), (1, 27), (0, 0), (0, 0), (1, 28), (1, 29), (1, 30)]) (q := (1, 20)) (by decide +kernel) 1 (by decide) (by decide) rfl (fun _ => rfl) w649 rfl rfl (fun _ => rfl) (fun _ => rfl) (dl' := zE_66) rfl dX0_init_42 ?_
  exact z_vret (pc := 45) hG rfl hk dX0_init_45
def zE_67 : List zDs := zE_66.set 0 (.inl (8, [(1, 1), (1, 3), (1, 11), (1, 19), (1, 20), (1, 26), (3, 0), (3, 0), (3, 0), (3, 0), (3, 0), (0, 0), (0, 0)]))
def zE_68 : List zDs := zE_67 ++ [.inl (6, [(3, 0), (0, 0), (0, 0), (3, 0)])]
def zE_69 : List zDs := zE_68 ++ [.inr (0, 40)]
def zE_70 : List zDs := zE_69.set 31 (.inl (6, [(1, 32), (0, 0), (0, 0), (3, 0)]))
def zE_71 : List zDs := zE_70 ++ [.inr (0, 656)]
def zE_72 : List zDs := zE_71.set 31 (.inl (6, [(1, 32), (0, 0), (0, 0), (1, 33)]))
set_option maxHeartbeats 400000 in
set_option maxRecDepth 100000 in
theorem ti_X8_init_31 {l : Launch} (hl0 : l.flags = flags0) : zC l yX8_init cX8_init 1 none 0 2 696 [.ref 31] zE_68 (zi (zi zS0 3 6 (-1 : Int32)) 11 6 (-1 : Int32)) (.inl none, zE_72, (zi (zi zS0 3 6 (-1 : Int32)) 11 6 (-1 : Int32))) := by
  refine zC_of hl0 rfl (Nat.le_of_ble_eq_true rfl) (fun x hG hxl hk hnam => ?_)
  subst hxl
  show zK x 0 0 [(0, .ref 31)] [] zE_68 (zi (zi zS0 3 6 (-1 : Int32)) 11 6 (-1 : Int32)) 2 696
  refine z_aload_n (pc := 0) hG 0 rfl rfl dX8_init_0 ?_
  refine z_objinit (pc := 1) hG w678 w67 w_oin (Nat.le_of_ble_eq_true rfl) dX8_init_1 ?_
  refine z_aload_n (pc := 4) hG 0 rfl rfl dX8_init_4 ?_
  refine z_bipush (pc := 5) hG kb_40 dX8_init_5 ?_
  refine z_newa (A' := 1) (B' := 656) (atype := .int) (t := 0) (N := 40) (z := (40, .inl (fun _ => 0))) (pc := 7) hG wa_int rfl (fun _ => rfl) rfl (fun _ _ => Iff.rfl) (i := 32) (by decide +kernel) (by decide) (by decide +kernel) (fun _ _ => rfl) (fun _ => rfl) (by decide) rfl (Nat.le_of_ble_eq_true rfl) rfl rfl (dl' := zE_69) rfl rfl rfl dX8_init_7 ?_
  refine z_putrF (pc := 9) hG hnam zc_X8 inX8 tyX8 tyX8_ok nmX8 (i := 31) (fl := [(3, 0), (0, 0), (0, 0), (3, 0)]) (q := (1, 32)) (by decide +kernel) 0 (by decide) (by decide) rfl (fun _ => rfl) w679 rfl rfl (fun _ => rfl) (fun _ => rfl) (dl' := zE_70) rfl dX8_init_9 ?_
  refine z_aload_n (pc := 12) hG 0 rfl rfl dX8_init_12 ?_
  refine z_sipush (pc := 13) hG ks_656 dX8_init_13 ?_
  refine z_newa (A' := 0) (B' := 0) (atype := .int) (t := 0) (N := 656) (z := (656, .inl (fun _ => 0))) (pc := 16) hG wa_int rfl (fun _ => rfl) rfl (fun _ _ => Iff.rfl) (i := 33) (by decide +kernel) (by decide) (by decide +kernel) (fun _ _ => rfl) (fun _ => rfl) (by decide) rfl (Nat.le_of_ble_eq_true rfl) rfl rfl (dl' := zE_71) rfl rfl rfl dX8_init_16 ?_
  refine z_putrF (pc := 18) hG hnam zc_X8 inX8 tyX8 tyX8_ok nmX8 (i := 31) (fl := [(1, 32), (0, 0), (0, 0), (3, 0)]) (q := (1, 33)) (by decide +kernel) 3 (by decide) (by decide) rfl (fun _ => rfl) w688 rfl rfl (fun _ => rfl) (fun _ => rfl) (dl' := zE_72) rfl dX8_init_18 ?_
  exact z_vret (pc := 21) hG rfl hk dX8_init_21
def zE_73 : List zDs := zE_72.set 0 (.inl (8, [(1, 1), (1, 3), (1, 11), (1, 19), (1, 20), (1, 26), (1, 31), (3, 0), (3, 0), (3, 0), (3, 0), (0, 0), (0, 0)]))
def zE_74 : List zDs := zE_73 ++ [.inl (1, [(3, 0), (3, 0), (3, 0), (3, 0), (3, 0), (0, 0)])]
def zE_75 : List zDs := zE_74 ++ [.inr (0, 40)]
def zE_76 : List zDs := zE_75.set 34 (.inl (1, [(3, 0), (3, 0), (3, 0), (1, 35), (3, 0), (0, 0)]))
def zE_77 : List zDs := zE_76 ++ [.inr (0, 40)]
def zE_78 : List zDs := zE_77.set 34 (.inl (1, [(3, 0), (3, 0), (3, 0), (1, 35), (1, 36), (0, 0)]))
def zE_79 : List zDs := zE_78.set 34 (.inl (1, [(1, 3), (3, 0), (3, 0), (1, 35), (1, 36), (0, 0)]))
def zE_80 : List zDs := zE_79.set 34 (.inl (1, [(1, 3), (1, 20), (3, 0), (1, 35), (1, 36), (0, 0)]))
def zE_81 : List zDs := zE_80.set 34 (.inl (1, [(1, 3), (1, 20), (1, 31), (1, 35), (1, 36), (0, 0)]))
set_option maxHeartbeats 400000 in
set_option maxRecDepth 100000 in
theorem ti_X2_init_34 {l : Launch} (hl0 : l.flags = flags0) : zC l yX2_init cX2_init 4 none 0 2 80 [.ref 34, .ref 3, .ref 20, .ref 31] zE_74 (zi (zi zS0 3 6 (-1 : Int32)) 11 6 (-1 : Int32)) (.inl none, zE_81, (zi (zi zS0 3 6 (-1 : Int32)) 11 6 (-1 : Int32))) := by
  refine zC_of hl0 rfl (Nat.le_of_ble_eq_true rfl) (fun x hG hxl hk hnam => ?_)
  subst hxl
  show zK x 0 0 [(0, .ref 34), (1, .ref 3), (2, .ref 20), (3, .ref 31)] [] zE_74 (zi (zi zS0 3 6 (-1 : Int32)) 11 6 (-1 : Int32)) 2 80
  refine z_aload_n (pc := 0) hG 0 rfl rfl dX2_init_0 ?_
  refine z_objinit (pc := 1) hG w702 w67 w_oin (Nat.le_of_ble_eq_true rfl) dX2_init_1 ?_
  refine z_aload_n (pc := 4) hG 0 rfl rfl dX2_init_4 ?_
  refine z_bipush (pc := 5) hG kb_40 dX2_init_5 ?_
  refine z_newa (A' := 1) (B' := 40) (atype := .int) (t := 0) (N := 40) (z := (40, .inl (fun _ => 0))) (pc := 7) hG wa_int rfl (fun _ => rfl) rfl (fun _ _ => Iff.rfl) (i := 35) (by decide +kernel) (by decide) (by decide +kernel) (fun _ _ => rfl) (fun _ => rfl) (by decide) rfl (Nat.le_of_ble_eq_true rfl) rfl rfl (dl' := zE_75) rfl rfl rfl dX2_init_7 ?_
  refine z_putrF (pc := 9) hG hnam zc_X2 inX2 tyX2 tyX2_ok nmX2 (i := 34) (fl := [(3, 0), (3, 0), (3, 0), (3, 0), (3, 0), (0, 0)]) (q := (1, 35)) (by decide +kernel) 3 (by decide) (by decide) rfl (fun _ => rfl) w706 rfl rfl (fun _ => rfl) (fun _ => rfl) (dl' := zE_76) rfl dX2_init_9 ?_
  refine z_aload_n (pc := 12) hG 0 rfl rfl dX2_init_12 ?_
  refine z_bipush (pc := 13) hG kb_40 dX2_init_13 ?_
  refine z_newa (A' := 0) (B' := 0) (atype := .int) (t := 0) (N := 40) (z := (40, .inl (fun _ => 0))) (pc := 15) hG wa_int rfl (fun _ => rfl) rfl (fun _ _ => Iff.rfl) (i := 36) (by decide +kernel) (by decide) (by decide +kernel) (fun _ _ => rfl) (fun _ => rfl) (by decide) rfl (Nat.le_of_ble_eq_true rfl) rfl rfl (dl' := zE_77) rfl rfl rfl dX2_init_15 ?_
  refine z_putrF (pc := 17) hG hnam zc_X2 inX2 tyX2 tyX2_ok nmX2 (i := 34) (fl := [(3, 0), (3, 0), (3, 0), (1, 35), (3, 0), (0, 0)]) (q := (1, 36)) (by decide +kernel) 4 (by decide) (by decide) rfl (fun _ => rfl) w707 rfl rfl (fun _ => rfl) (fun _ => rfl) (dl' := zE_78) rfl dX2_init_17 ?_
  refine z_aload_n (pc := 20) hG 0 rfl rfl dX2_init_20 ?_
  refine z_aload_n (pc := 21) hG 1 rfl rfl dX2_init_21 ?_
  refine z_putrF (pc := 22) hG hnam zc_X2 inX2 tyX2 tyX2_ok nmX2 (i := 34) (fl := [(3, 0), (3, 0), (3, 0), (1, 35), (1, 36), (0, 0)]) (q := (1, 3)) (by decide +kernel) 0 (by decide) (by decide) rfl (fun _ => rfl) w703 rfl rfl (fun _ => rfl) (fun _ => rfl) (dl' := zE_79) rfl dX2_init_22 ?_
  refine z_aload_n (pc := 25) hG 0 rfl rfl dX2_init_25 ?_
  refine z_aload_n (pc := 26) hG 2 rfl rfl dX2_init_26 ?_
  refine z_putrF (pc := 27) hG hnam zc_X2 inX2 tyX2 tyX2_ok nmX2 (i := 34) (fl := [(1, 3), (3, 0), (3, 0), (1, 35), (1, 36), (0, 0)]) (q := (1, 20)) (by decide +kernel) 1 (by decide) (by decide) rfl (fun _ => rfl) w704 rfl rfl (fun _ => rfl) (fun _ => rfl) (dl' := zE_80) rfl dX2_init_27 ?_
  refine z_aload_n (pc := 30) hG 0 rfl rfl dX2_init_30 ?_
  refine z_aload_n (pc := 31) hG 3 rfl rfl dX2_init_31 ?_
  refine z_putrF (pc := 32) hG hnam zc_X2 inX2 tyX2 tyX2_ok nmX2 (i := 34) (fl := [(1, 3), (1, 20), (3, 0), (1, 35), (1, 36), (0, 0)]) (q := (1, 31)) (by decide +kernel) 2 (by decide) (by decide) rfl (fun _ => rfl) w705 rfl rfl (fun _ => rfl) (fun _ => rfl) (dl' := zE_81) rfl dX2_init_32 ?_
  exact z_vret (pc := 35) hG rfl hk dX2_init_35
def zE_82 : List zDs := zE_81.set 0 (.inl (8, [(1, 1), (1, 3), (1, 11), (1, 19), (1, 20), (1, 26), (1, 31), (1, 34), (3, 0), (3, 0), (3, 0), (0, 0), (0, 0)]))
def zE_83 : List zDs := zE_82 ++ [.inl (2, [(3, 0), (3, 0), (3, 0), (3, 0), (3, 0)])]
def zE_84 : List zDs := zE_83 ++ [.inr (0, 40)]
def zE_85 : List zDs := zE_84.set 37 (.inl (2, [(3, 0), (3, 0), (3, 0), (1, 38), (3, 0)]))
def zE_86 : List zDs := zE_85 ++ [.inr (0, 40)]
def zE_87 : List zDs := zE_86.set 37 (.inl (2, [(3, 0), (3, 0), (3, 0), (1, 38), (1, 39)]))
def zE_88 : List zDs := zE_87.set 37 (.inl (2, [(1, 3), (3, 0), (3, 0), (1, 38), (1, 39)]))
def zE_89 : List zDs := zE_88.set 37 (.inl (2, [(1, 3), (1, 20), (3, 0), (1, 38), (1, 39)]))
def zE_90 : List zDs := zE_89.set 37 (.inl (2, [(1, 3), (1, 20), (1, 31), (1, 38), (1, 39)]))
set_option maxHeartbeats 400000 in
set_option maxRecDepth 100000 in
theorem ti_X4_init_37 {l : Launch} (hl0 : l.flags = flags0) : zC l yX4_init cX4_init 4 none 0 2 80 [.ref 37, .ref 3, .ref 20, .ref 31] zE_83 (zi (zi zS0 3 6 (-1 : Int32)) 11 6 (-1 : Int32)) (.inl none, zE_90, (zi (zi zS0 3 6 (-1 : Int32)) 11 6 (-1 : Int32))) := by
  refine zC_of hl0 rfl (Nat.le_of_ble_eq_true rfl) (fun x hG hxl hk hnam => ?_)
  subst hxl
  show zK x 0 0 [(0, .ref 37), (1, .ref 3), (2, .ref 20), (3, .ref 31)] [] zE_83 (zi (zi zS0 3 6 (-1 : Int32)) 11 6 (-1 : Int32)) 2 80
  refine z_aload_n (pc := 0) hG 0 rfl rfl dX4_init_0 ?_
  refine z_objinit (pc := 1) hG w727 w67 w_oin (Nat.le_of_ble_eq_true rfl) dX4_init_1 ?_
  refine z_aload_n (pc := 4) hG 0 rfl rfl dX4_init_4 ?_
  refine z_bipush (pc := 5) hG kb_40 dX4_init_5 ?_
  refine z_newa (A' := 1) (B' := 40) (atype := .int) (t := 0) (N := 40) (z := (40, .inl (fun _ => 0))) (pc := 7) hG wa_int rfl (fun _ => rfl) rfl (fun _ _ => Iff.rfl) (i := 38) (by decide +kernel) (by decide) (by decide +kernel) (fun _ _ => rfl) (fun _ => rfl) (by decide) rfl (Nat.le_of_ble_eq_true rfl) rfl rfl (dl' := zE_84) rfl rfl rfl dX4_init_7 ?_
  refine z_putrF (pc := 9) hG hnam zc_X4 inX4 tyX4 tyX4_ok nmX4 (i := 37) (fl := [(3, 0), (3, 0), (3, 0), (3, 0), (3, 0)]) (q := (1, 38)) (by decide +kernel) 3 (by decide) (by decide) rfl (fun _ => rfl) w731 rfl rfl (fun _ => rfl) (fun _ => rfl) (dl' := zE_85) rfl dX4_init_9 ?_
  refine z_aload_n (pc := 12) hG 0 rfl rfl dX4_init_12 ?_
  refine z_bipush (pc := 13) hG kb_40 dX4_init_13 ?_
  refine z_newa (A' := 0) (B' := 0) (atype := .int) (t := 0) (N := 40) (z := (40, .inl (fun _ => 0))) (pc := 15) hG wa_int rfl (fun _ => rfl) rfl (fun _ _ => Iff.rfl) (i := 39) (by decide +kernel) (by decide) (by decide +kernel) (fun _ _ => rfl) (fun _ => rfl) (by decide) rfl (Nat.le_of_ble_eq_true rfl) rfl rfl (dl' := zE_86) rfl rfl rfl dX4_init_15 ?_
  refine z_putrF (pc := 17) hG hnam zc_X4 inX4 tyX4 tyX4_ok nmX4 (i := 37) (fl := [(3, 0), (3, 0), (3, 0), (1, 38), (3, 0)]) (q := (1, 39)) (by decide +kernel) 4 (by decide) (by decide) rfl (fun _ => rfl) w732 rfl rfl (fun _ => rfl) (fun _ => rfl) (dl' := zE_87) rfl dX4_init_17 ?_
  refine z_aload_n (pc := 20) hG 0 rfl rfl dX4_init_20 ?_
  refine z_aload_n (pc := 21) hG 1 rfl rfl dX4_init_21 ?_
  refine z_putrF (pc := 22) hG hnam zc_X4 inX4 tyX4 tyX4_ok nmX4 (i := 37) (fl := [(3, 0), (3, 0), (3, 0), (1, 38), (1, 39)]) (q := (1, 3)) (by decide +kernel) 0 (by decide) (by decide) rfl (fun _ => rfl) w728 rfl rfl (fun _ => rfl) (fun _ => rfl) (dl' := zE_88) rfl dX4_init_22 ?_
  refine z_aload_n (pc := 25) hG 0 rfl rfl dX4_init_25 ?_
  refine z_aload_n (pc := 26) hG 2 rfl rfl dX4_init_26 ?_
  refine z_putrF (pc := 27) hG hnam zc_X4 inX4 tyX4 tyX4_ok nmX4 (i := 37) (fl := [(1, 3), (3, 0), (3, 0), (1, 38), (1, 39)]) (q := (1, 20)) (by decide +kernel) 1 (by decide) (by decide) rfl (fun _ => rfl) w729 rfl rfl (fun _ => rfl) (fun _ => rfl) (dl' := zE_89) rfl dX4_init_27 ?_
  refine z_aload_n (pc := 30) hG 0 rfl rfl dX4_init_30 ?_
  refine z_aload_n (pc := 31) hG 3 rfl rfl dX4_init_31 ?_
  refine z_putrF (pc := 32) hG hnam zc_X4 inX4 tyX4 tyX4_ok nmX4 (i := 37) (fl := [(1, 3), (1, 20), (3, 0), (1, 38), (1, 39)]) (q := (1, 31)) (by decide +kernel) 2 (by decide) (by decide) rfl (fun _ => rfl) w730 rfl rfl (fun _ => rfl) (fun _ => rfl) (dl' := zE_90) rfl dX4_init_32 ?_
  exact z_vret (pc := 35) hG rfl hk dX4_init_35
def zE_91 : List zDs := zE_90.set 0 (.inl (8, [(1, 1), (1, 3), (1, 11), (1, 19), (1, 20), (1, 26), (1, 31), (1, 34), (1, 37), (3, 0), (3, 0), (0, 0), (0, 0)]))
def zE_92 : List zDs := zE_91 ++ [.inr (0, 40)]
def zE_93 : List zDs := zE_92.set 0 (.inl (8, [(1, 1), (1, 3), (1, 11), (1, 19), (1, 20), (1, 26), (1, 31), (1, 34), (1, 37), (1, 40), (3, 0), (0, 0), (0, 0)]))
def zE_94 : List zDs := zE_93 ++ [.inr (1, 5)]
def zE_95 : List zDs := zE_94.set 0 (.inl (8, [(1, 1), (1, 3), (1, 11), (1, 19), (1, 20), (1, 26), (1, 31), (1, 34), (1, 37), (1, 40), (1, 41), (0, 0), (0, 0)]))
set_option maxHeartbeats 400000 in
set_option maxRecDepth 100000 in
theorem ti_X10_init_0 {l : Launch} (hl0 : l.flags = flags0) : zCx l yX10_init (.code yX10_init cX10_init 1 none) 1 41 1922 [.ref 0] zE_1 zS0 (.inl none, zE_95, (zi (zi (zi (zi zS0 3 6 (-1 : Int32)) 11 6 (-1 : Int32)) 0 11 (0 : Int32)) 0 12 (-1 : Int32))) := by
  refine zCx_of hl0 rfl (Nat.le_of_ble_eq_true rfl) (fun x hG hPx hxl hk hnam => ?_)
  subst hxl
  show zK x 1 0 [(0, .ref 0)] [] zE_1 zS0 41 1922
  refine z_aload_n (pc := 0) hG 0 rfl rfl dX10_init_0 ?_
  refine z_objinit (pc := 1) hG w510 w67 w_oin (Nat.le_of_ble_eq_true rfl) dX10_init_1 ?_
  refine z_aload_n (pc := 4) hG 0 rfl rfl dX10_init_4 ?_
  refine z_new (A' := 40) (B' := 1920) (fl := [(3, 0), (0, 0)]) (pc := 5) hG zc_X9 inX9 tyX9 tyX9_ok w511 w512 w2 (i := 1) (by decide +kernel) (by decide) (by decide +kernel) (fun _ => rfl) rfl (by decide +kernel) rfl rfl (dl' := zE_2) rfl rfl rfl dX10_init_5 ?_
  refine z_dup (pc := 8) hG rfl dX10_init_8 ?_
  refine z_specN (host := RX10) (A' := 39) (B' := 1520) (i := 1) (σ' := zS0) (rest := [.ref 1, .ref 0]) (dl' := zE_4) (pc := 9) hG hPx (List.mem_of_getElem? (i := 0) rfl) 2 [] (ti_X9_init_1 hl0) zy_X9_init rfl w514 dX10_init_9 rfl (Nat.le_of_ble_eq_true rfl) (by decide +kernel) (by decide +kernel) rfl rfl rfl rfl (Nat.le_of_ble_eq_true rfl) rfl ?_
  refine z_putrF (pc := 12) hG hnam zc_X10 inX10 tyX10 tyX10_ok nmX10 (i := 0) (fl := [(3, 0), (3, 0), (3, 0), (3, 0), (3, 0), (3, 0), (3, 0), (3, 0), (3, 0), (3, 0), (3, 0), (0, 0), (0, 0)]) (q := (1, 1)) (by decide +kernel) 0 (by decide) (by decide) rfl (fun _ => rfl) w744 rfl rfl (fun _ => rfl) (fun _ => rfl) (dl' := zE_5) rfl dX10_init_12 ?_
  refine z_aload_n (pc := 15) hG 0 rfl rfl dX10_init_15 ?_
  refine z_new (A' := 38) (B' := 1509) (fl := [(0, 0), (3, 0), (3, 0), (3, 0), (3, 0), (3, 0), (0, 0), (0, 0), (3, 0), (0, 0), (3, 0)]) (pc := 16) hG zc_X6 inX6 tyX6 tyX6_ok w527 w458 w3 (i := 3) (by decide +kernel) (by decide) (by decide +kernel) (fun _ => rfl) rfl (by decide +kernel) rfl rfl (dl' := zE_6) rfl rfl rfl dX10_init_16 ?_
  refine z_dup (pc := 19) hG rfl dX10_init_19 ?_
  refine z_specN (host := RX10) (A' := 31) (B' := 1389) (i := 3) (σ' := (zi zS0 3 6 (-1 : Int32))) (rest := [.ref 3, .ref 0]) (dl' := zE_20) (pc := 20) hG hPx (List.mem_of_getElem? (i := 1) rfl) 4 [] (ti_X6_init_3 hl0) zy_X6_init rfl w529 dX10_init_20 rfl (Nat.le_of_ble_eq_true rfl) (by decide +kernel) (by decide +kernel) rfl rfl rfl rfl (Nat.le_of_ble_eq_true rfl) rfl ?_
  refine z_putrF (pc := 23) hG hnam zc_X10 inX10 tyX10 tyX10_ok nmX10 (i := 0) (fl := [(1, 1), (3, 0), (3, 0), (3, 0), (3, 0), (3, 0), (3, 0), (3, 0), (3, 0), (3, 0), (3, 0), (0, 0), (0, 0)]) (q := (1, 3)) (by decide +kernel) 1 (by decide) (by decide) rfl (fun _ => rfl) w745 rfl rfl (fun _ => rfl) (fun _ => rfl) (dl' := zE_21) rfl dX10_init_23 ?_
  refine z_aload_n (pc := 26) hG 0 rfl rfl dX10_init_26 ?_
  refine z_new (A' := 30) (B' := 1378) (fl := [(0, 0), (3, 0), (3, 0), (3, 0), (3, 0), (3, 0), (0, 0), (0, 0), (3, 0), (0, 0), (3, 0)]) (pc := 27) hG zc_X6 inX6 tyX6 tyX6_ok w527 w458 w3 (i := 11) (by decide +kernel) (by decide) (by decide +kernel) (fun _ => rfl) rfl (by decide +kernel) rfl rfl (dl' := zE_22) rfl rfl rfl dX10_init_27 ?_
  refine z_dup (pc := 30) hG rfl dX10_init_30 ?_
  refine z_specN (host := RX10) (A' := 23) (B' := 1258) (i := 11) (σ' := (zi (zi zS0 3 6 (-1 : Int32)) 11 6 (-1 : Int32))) (rest := [.ref 11, .ref 0]) (dl' := zE_36) (pc := 31) hG hPx (List.mem_of_getElem? (i := 1) rfl) 12 [] (ti_X6_init_11 hl0) zy_X6_init rfl w529 dX10_init_31 rfl (Nat.le_of_ble_eq_true rfl) (by decide +kernel) (by decide +kernel) rfl rfl rfl rfl (Nat.le_of_ble_eq_true rfl) rfl ?_
  refine z_putrF (pc := 34) hG hnam zc_X10 inX10 tyX10 tyX10_ok nmX10 (i := 0) (fl := [(1, 1), (1, 3), (3, 0), (3, 0), (3, 0), (3, 0), (3, 0), (3, 0), (3, 0), (3, 0), (3, 0), (0, 0), (0, 0)]) (q := (1, 11)) (by decide +kernel) 2 (by decide) (by decide) rfl (fun _ => rfl) w746 rfl rfl (fun _ => rfl) (fun _ => rfl) (dl' := zE_37) rfl dX10_init_34 ?_
  refine z_aload_n (pc := 37) hG 0 rfl rfl dX10_init_37 ?_
  refine z_new (A' := 22) (B' := 1253) (fl := [(3, 0), (3, 0), (0, 0), (0, 0), (0, 0)]) (pc := 38) hG zc_X7 inX7 tyX7 tyX7_ok w592 w593 w4 (i := 19) (by decide +kernel) (by decide) (by decide +kernel) (fun _ => rfl) rfl (by decide +kernel) rfl rfl (dl' := zE_38) rfl rfl rfl dX10_init_38 ?_
  refine z_dup (pc := 41) hG rfl dX10_init_41 ?_
  refine z_aload_n (pc := 42) hG 0 rfl rfl dX10_init_42 ?_
  refine z_getr (pc := 43) hG zc_X10 inX10 (i := 0) (fl := [(1, 1), (1, 3), (1, 11), (3, 0), (3, 0), (3, 0), (3, 0), (3, 0), (3, 0), (3, 0), (3, 0), (0, 0), (0, 0)]) (by decide +kernel) 0 rfl (by decide) rfl w744 dX10_init_43 ?_
  refine z_aload_n (pc := 46) hG 0 rfl rfl dX10_init_46 ?_
  refine z_getr (pc := 47) hG zc_X10 inX10 (i := 0) (fl := [(1, 1), (1, 3), (1, 11), (3, 0), (3, 0), (3, 0), (3, 0), (3, 0), (3, 0), (3, 0), (3, 0), (0, 0), (0, 0)]) (by decide +kernel) 2 rfl (by decide) rfl w746 dX10_init_47 ?_
  refine z_spec (A' := 22) (B' := 1253) (i := 19) (σ' := (zi (zi zS0 3 6 (-1 : Int32)) 11 6 (-1 : Int32))) (rest := [.ref 19, .ref 0]) (dl' := zE_40) (pc := 50) hG 20 [.ref 1, .ref 11] (ti_X7_init_19 hl0) zy_X7_init rfl w595 w594 dX10_init_50 rfl (Nat.le_of_ble_eq_true rfl) (by decide +kernel) (by decide +kernel) rfl rfl rfl rfl (Nat.le_of_ble_eq_true rfl) rfl ?_
  refine z_putrF (pc := 53) hG hnam zc_X10 inX10 tyX10 tyX10_ok nmX10 (i := 0) (fl := [(1, 1), (1, 3), (1, 11), (3, 0), (3, 0), (3, 0), (3, 0), (3, 0), (3, 0), (3, 0), (3, 0), (0, 0), (0, 0)]) (q := (1, 19)) (by decide +kernel) 3 (by decide) (by decide) rfl (fun _ => rfl) w747 rfl rfl (fun _ => rfl) (fun _ => rfl) (dl' := zE_41) rfl dX10_init_53 ?_
  refine z_aload_n (pc := 56) hG 0 rfl rfl dX10_init_56 ?_
  refine z_new (A' := 21) (B' := 1246) (fl := [(3, 0), (3, 0), (3, 0), (3, 0), (3, 0), (3, 0), (0, 0)]) (pc := 57) hG zc_X5 inX5 tyX5 tyX5_ok w614 w252 w5 (i := 20) (by decide +kernel) (by decide) (by decide +kernel) (fun _ => rfl) rfl (by decide +kernel) rfl rfl (dl' := zE_42) rfl rfl rfl dX10_init_57 ?_
  refine z_dup (pc := 60) hG rfl dX10_init_60 ?_
  refine z_aload_n (pc := 61) hG 0 rfl rfl dX10_init_61 ?_
  refine z_getr (pc := 62) hG zc_X10 inX10 (i := 0) (fl := [(1, 1), (1, 3), (1, 11), (1, 19), (3, 0), (3, 0), (3, 0), (3, 0), (3, 0), (3, 0), (3, 0), (0, 0), (0, 0)]) (by decide +kernel) 1 rfl (by decide) rfl w745 dX10_init_62 ?_
  refine z_spec (A' := 16) (B' := 1024) (i := 20) (σ' := (zi (zi zS0 3 6 (-1 : Int32)) 11 6 (-1 : Int32))) (rest := [.ref 20, .ref 0]) (dl' := zE_54) (pc := 65) hG 21 [.ref 3] (ti_X5_init_20 hl0) zy_X5_init rfl w616 w615 dX10_init_65 rfl (Nat.le_of_ble_eq_true rfl) (by decide +kernel) (by decide +kernel) rfl rfl rfl rfl (Nat.le_of_ble_eq_true rfl) rfl ?_
  refine z_putrF (pc := 68) hG hnam zc_X10 inX10 tyX10 tyX10_ok nmX10 (i := 0) (fl := [(1, 1), (1, 3), (1, 11), (1, 19), (3, 0), (3, 0), (3, 0), (3, 0), (3, 0), (3, 0), (3, 0), (0, 0), (0, 0)]) (q := (1, 20)) (by decide +kernel) 4 (by decide) (by decide) rfl (fun _ => rfl) w748 rfl rfl (fun _ => rfl) (fun _ => rfl) (dl' := zE_55) rfl dX10_init_68 ?_
  refine z_aload_n (pc := 71) hG 0 rfl rfl dX10_init_71 ?_
  refine z_new (A' := 15) (B' := 1016) (fl := [(3, 0), (3, 0), (3, 0), (0, 0), (0, 0), (3, 0), (3, 0), (3, 0)]) (pc := 72) hG zc_X0 inX0 tyX0 tyX0_ok w643 w138 w6 (i := 26) (by decide +kernel) (by decide) (by decide +kernel) (fun _ => rfl) rfl (by decide +kernel) rfl rfl (dl' := zE_56) rfl rfl rfl dX10_init_72 ?_
  refine z_dup (pc := 75) hG rfl dX10_init_75 ?_
  refine z_aload_n (pc := 76) hG 0 rfl rfl dX10_init_76 ?_
  refine z_getr (pc := 77) hG zc_X10 inX10 (i := 0) (fl := [(1, 1), (1, 3), (1, 11), (1, 19), (1, 20), (3, 0), (3, 0), (3, 0), (3, 0), (3, 0), (3, 0), (0, 0), (0, 0)]) (by decide +kernel) 1 rfl (by decide) rfl w745 dX10_init_77 ?_
  refine z_aload_n (pc := 80) hG 0 rfl rfl dX10_init_80 ?_
  refine z_getr (pc := 81) hG zc_X10 inX10 (i := 0) (fl := [(1, 1), (1, 3), (1, 11), (1, 19), (1, 20), (3, 0), (3, 0), (3, 0), (3, 0), (3, 0), (3, 0), (0, 0), (0, 0)]) (by decide +kernel) 4 rfl (by decide) rfl w748 dX10_init_81 ?_
  refine z_spec (A' := 11) (B' := 916) (i := 26) (σ' := (zi (zi zS0 3 6 (-1 : Int32)) 11 6 (-1 : Int32))) (rest := [.ref 26, .ref 0]) (dl' := zE_66) (pc := 84) hG 27 [.ref 3, .ref 20] (ti_X0_init_26 hl0) zy_X0_init rfl w645 w644 dX10_init_84 rfl (Nat.le_of_ble_eq_true rfl) (by decide +kernel) (by decide +kernel) rfl rfl rfl rfl (Nat.le_of_ble_eq_true rfl) rfl ?_
  refine z_putrF (pc := 87) hG hnam zc_X10 inX10 tyX10 tyX10_ok nmX10 (i := 0) (fl := [(1, 1), (1, 3), (1, 11), (1, 19), (1, 20), (3, 0), (3, 0), (3, 0), (3, 0), (3, 0), (3, 0), (0, 0), (0, 0)]) (q := (1, 26)) (by decide +kernel) 5 (by decide) (by decide) rfl (fun _ => rfl) w749 rfl rfl (fun _ => rfl) (fun _ => rfl) (dl' := zE_67) rfl dX10_init_87 ?_
  refine z_aload_n (pc := 90) hG 0 rfl rfl dX10_init_90 ?_
  refine z_new (A' := 10) (B' := 912) (fl := [(3, 0), (0, 0), (0, 0), (3, 0)]) (pc := 91) hG zc_X8 inX8 tyX8 tyX8_ok w673 w674 w7 (i := 31) (by decide +kernel) (by decide) (by decide +kernel) (fun _ => rfl) rfl (by decide +kernel) rfl rfl (dl' := zE_68) rfl rfl rfl dX10_init_91 ?_
  refine z_dup (pc := 94) hG rfl dX10_init_94 ?_
  refine z_specN (host := RX10) (A' := 8) (B' := 216) (i := 31) (σ' := (zi (zi zS0 3 6 (-1 : Int32)) 11 6 (-1 : Int32))) (rest := [.ref 31, .ref 0]) (dl' := zE_72) (pc := 95) hG hPx (List.mem_of_getElem? (i := 2) rfl) 32 [] (ti_X8_init_31 hl0) zy_X8_init rfl w676 dX10_init_95 rfl (Nat.le_of_ble_eq_true rfl) (by decide +kernel) (by decide +kernel) rfl rfl rfl rfl (Nat.le_of_ble_eq_true rfl) rfl ?_
  refine z_putrF (pc := 98) hG hnam zc_X10 inX10 tyX10 tyX10_ok nmX10 (i := 0) (fl := [(1, 1), (1, 3), (1, 11), (1, 19), (1, 20), (1, 26), (3, 0), (3, 0), (3, 0), (3, 0), (3, 0), (0, 0), (0, 0)]) (q := (1, 31)) (by decide +kernel) 6 (by decide) (by decide) rfl (fun _ => rfl) w750 rfl rfl (fun _ => rfl) (fun _ => rfl) (dl' := zE_73) rfl dX10_init_98 ?_
  refine z_aload_n (pc := 101) hG 0 rfl rfl dX10_init_101 ?_
  refine z_new (A' := 7) (B' := 210) (fl := [(3, 0), (3, 0), (3, 0), (3, 0), (3, 0), (0, 0)]) (pc := 102) hG zc_X2 inX2 tyX2 tyX2_ok w698 w438 w8 (i := 34) (by decide +kernel) (by decide) (by decide +kernel) (fun _ => rfl) rfl (by decide +kernel) rfl rfl (dl' := zE_74) rfl rfl rfl dX10_init_102 ?_
  refine z_dup (pc := 105) hG rfl dX10_init_105 ?_
  refine z_aload_n (pc := 106) hG 0 rfl rfl dX10_init_106 ?_
  refine z_getr (pc := 107) hG zc_X10 inX10 (i := 0) (fl := [(1, 1), (1, 3), (1, 11), (1, 19), (1, 20), (1, 26), (1, 31), (3, 0), (3, 0), (3, 0), (3, 0), (0, 0), (0, 0)]) (by decide +kernel) 1 rfl (by decide) rfl w745 dX10_init_107 ?_
  refine z_aload_n (pc := 110) hG 0 rfl rfl dX10_init_110 ?_
  refine z_getr (pc := 111) hG zc_X10 inX10 (i := 0) (fl := [(1, 1), (1, 3), (1, 11), (1, 19), (1, 20), (1, 26), (1, 31), (3, 0), (3, 0), (3, 0), (3, 0), (0, 0), (0, 0)]) (by decide +kernel) 4 rfl (by decide) rfl w748 dX10_init_111 ?_
  refine z_aload_n (pc := 114) hG 0 rfl rfl dX10_init_114 ?_
  refine z_getr (pc := 115) hG zc_X10 inX10 (i := 0) (fl := [(1, 1), (1, 3), (1, 11), (1, 19), (1, 20), (1, 26), (1, 31), (3, 0), (3, 0), (3, 0), (3, 0), (0, 0), (0, 0)]) (by decide +kernel) 6 rfl (by decide) rfl w750 dX10_init_115 ?_
  refine z_spec (A' := 5) (B' := 130) (i := 34) (σ' := (zi (zi zS0 3 6 (-1 : Int32)) 11 6 (-1 : Int32))) (rest := [.ref 34, .ref 0]) (dl' := zE_81) (pc := 118) hG 35 [.ref 3, .ref 20, .ref 31] (ti_X2_init_34 hl0) zy_X2_init rfl w700 w699 dX10_init_118 rfl (Nat.le_of_ble_eq_true rfl) (by decide +kernel) (by decide +kernel) rfl rfl rfl rfl (Nat.le_of_ble_eq_true rfl) rfl ?_
  refine z_putrF (pc := 121) hG hnam zc_X10 inX10 tyX10 tyX10_ok nmX10 (i := 0) (fl := [(1, 1), (1, 3), (1, 11), (1, 19), (1, 20), (1, 26), (1, 31), (3, 0), (3, 0), (3, 0), (3, 0), (0, 0), (0, 0)]) (q := (1, 34)) (by decide +kernel) 7 (by decide) (by decide) rfl (fun _ => rfl) w751 rfl rfl (fun _ => rfl) (fun _ => rfl) (dl' := zE_82) rfl dX10_init_121 ?_
  refine z_aload_n (pc := 124) hG 0 rfl rfl dX10_init_124 ?_
  refine z_new (A' := 4) (B' := 125) (fl := [(3, 0), (3, 0), (3, 0), (3, 0), (3, 0)]) (pc := 125) hG zc_X4 inX4 tyX4 tyX4_ok w722 w723 w9 (i := 37) (by decide +kernel) (by decide) (by decide +kernel) (fun _ => rfl) rfl (by decide +kernel) rfl rfl (dl' := zE_83) rfl rfl rfl dX10_init_125 ?_
  refine z_dup (pc := 128) hG rfl dX10_init_128 ?_
  refine z_aload_n (pc := 129) hG 0 rfl rfl dX10_init_129 ?_
  refine z_getr (pc := 130) hG zc_X10 inX10 (i := 0) (fl := [(1, 1), (1, 3), (1, 11), (1, 19), (1, 20), (1, 26), (1, 31), (1, 34), (3, 0), (3, 0), (3, 0), (0, 0), (0, 0)]) (by decide +kernel) 1 rfl (by decide) rfl w745 dX10_init_130 ?_
  refine z_aload_n (pc := 133) hG 0 rfl rfl dX10_init_133 ?_
  refine z_getr (pc := 134) hG zc_X10 inX10 (i := 0) (fl := [(1, 1), (1, 3), (1, 11), (1, 19), (1, 20), (1, 26), (1, 31), (1, 34), (3, 0), (3, 0), (3, 0), (0, 0), (0, 0)]) (by decide +kernel) 4 rfl (by decide) rfl w748 dX10_init_134 ?_
  refine z_aload_n (pc := 137) hG 0 rfl rfl dX10_init_137 ?_
  refine z_getr (pc := 138) hG zc_X10 inX10 (i := 0) (fl := [(1, 1), (1, 3), (1, 11), (1, 19), (1, 20), (1, 26), (1, 31), (1, 34), (3, 0), (3, 0), (3, 0), (0, 0), (0, 0)]) (by decide +kernel) 6 rfl (by decide) rfl w750 dX10_init_138 ?_
  refine z_spec (A' := 2) (B' := 45) (i := 37) (σ' := (zi (zi zS0 3 6 (-1 : Int32)) 11 6 (-1 : Int32))) (rest := [.ref 37, .ref 0]) (dl' := zE_90) (pc := 141) hG 38 [.ref 3, .ref 20, .ref 31] (ti_X4_init_37 hl0) zy_X4_init rfl w725 w724 dX10_init_141 rfl (Nat.le_of_ble_eq_true rfl) (by decide +kernel) (by decide +kernel) rfl rfl rfl rfl (Nat.le_of_ble_eq_true rfl) rfl ?_
  refine z_putrF (pc := 144) hG hnam zc_X10 inX10 tyX10 tyX10_ok nmX10 (i := 0) (fl := [(1, 1), (1, 3), (1, 11), (1, 19), (1, 20), (1, 26), (1, 31), (1, 34), (3, 0), (3, 0), (3, 0), (0, 0), (0, 0)]) (q := (1, 37)) (by decide +kernel) 8 (by decide) (by decide) rfl (fun _ => rfl) w752 rfl rfl (fun _ => rfl) (fun _ => rfl) (dl' := zE_91) rfl dX10_init_144 ?_
  refine z_aload_n (pc := 147) hG 0 rfl rfl dX10_init_147 ?_
  refine z_bipush (pc := 148) hG kb_40 dX10_init_148 ?_
  refine z_newa (A' := 1) (B' := 5) (atype := .int) (t := 0) (N := 40) (z := (40, .inl (fun _ => 0))) (pc := 150) hG wa_int rfl (fun _ => rfl) rfl (fun _ _ => Iff.rfl) (i := 40) (by decide +kernel) (by decide) (by decide +kernel) (fun _ _ => rfl) (fun _ => rfl) (by decide) rfl (Nat.le_of_ble_eq_true rfl) rfl rfl (dl' := zE_92) rfl rfl rfl dX10_init_150 ?_
  refine z_putrF (pc := 152) hG hnam zc_X10 inX10 tyX10 tyX10_ok nmX10 (i := 0) (fl := [(1, 1), (1, 3), (1, 11), (1, 19), (1, 20), (1, 26), (1, 31), (1, 34), (1, 37), (3, 0), (3, 0), (0, 0), (0, 0)]) (q := (1, 40)) (by decide +kernel) 9 (by decide) (by decide) rfl (fun _ => rfl) w753 rfl rfl (fun _ => rfl) (fun _ => rfl) (dl' := zE_93) rfl dX10_init_152 ?_
  refine z_aload_n (pc := 155) hG 0 rfl rfl dX10_init_155 ?_
  refine z_iconst (pc := 156) hG kc_5 dX10_init_156 ?_
  refine z_newa (A' := 0) (B' := 0) (atype := .byte) (t := 1) (N := 5) (z := (5, .inl (fun _ => 0))) (pc := 157) hG wa_byte rfl (fun _ => rfl) rfl (fun _ _ => Iff.rfl) (i := 41) (by decide +kernel) (by decide) (by decide +kernel) (fun _ _ => rfl) (fun _ => rfl) (by decide) rfl (Nat.le_of_ble_eq_true rfl) rfl rfl (dl' := zE_94) rfl rfl rfl dX10_init_157 ?_
  refine z_putrF (pc := 159) hG hnam zc_X10 inX10 tyX10 tyX10_ok nmX10 (i := 0) (fl := [(1, 1), (1, 3), (1, 11), (1, 19), (1, 20), (1, 26), (1, 31), (1, 34), (1, 37), (1, 40), (3, 0), (0, 0), (0, 0)]) (q := (1, 41)) (by decide +kernel) 10 (by decide) (by decide) rfl (fun _ => rfl) w754 rfl rfl (fun _ => rfl) (fun _ => rfl) (dl' := zE_95) rfl dX10_init_159 ?_
  refine z_aload_n (pc := 162) hG 0 rfl rfl dX10_init_162 ?_
  refine z_iconst (pc := 163) hG kc_0 dX10_init_163 ?_
  refine z_puti (pc := 164) hG zc_X10 inX10 tyX10 tyX10_ok nmX10 (i := 0) (fl := [(1, 1), (1, 3), (1, 11), (1, 19), (1, 20), (1, 26), (1, 31), (1, 34), (1, 37), (1, 40), (1, 41), (0, 0), (0, 0)]) (by decide +kernel) 11 rfl (by decide) rfl w755 rfl rfl rfl dX10_init_164 ?_
  refine z_aload_n (pc := 167) hG 0 rfl rfl dX10_init_167 ?_
  refine z_iconst (pc := 168) hG kc_m1 dX10_init_168 ?_
  refine z_puti (pc := 169) hG zc_X10 inX10 tyX10 tyX10_ok nmX10 (i := 0) (fl := [(1, 1), (1, 3), (1, 11), (1, 19), (1, 20), (1, 26), (1, 31), (1, 34), (1, 37), (1, 40), (1, 41), (0, 0), (0, 0)]) (by decide +kernel) 12 rfl (by decide) rfl w756 rfl rfl rfl dX10_init_169 ?_
  exact z_vret (pc := 172) hG rfl hk dX10_init_172
