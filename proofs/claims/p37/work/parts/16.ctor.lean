
/-! ===== the constructors ===== -/
theorem kb_25 : (Int8.ofInt (25)).toInt32 = (25 : Int32) := by decide
theorem kb_125 : (Int8.ofInt (125)).toInt32 = (125 : Int32) := by decide
theorem ks_625 : (Int16.ofInt (625)).toInt32 = (625 : Int32) := by decide
theorem ks_656 : (Int16.ofInt (656)).toInt32 = (656 : Int32) := by decide
theorem ks_3200 : (Int16.ofInt (3200)).toInt32 = (3200 : Int32) := by decide
theorem dX10_init_0 : decode cX10_init 0 = .ok (.aload_n 0, 1) := by decide +kernel
theorem dX10_init_1 : decode cX10_init 1 = .ok (.invokespecial 1, 3) := by decide +kernel
theorem dX10_init_4 : decode cX10_init 4 = .ok (.aload_n 0, 1) := by decide +kernel
theorem dX10_init_5 : decode cX10_init 5 = .ok (.new 7, 3) := by decide +kernel
theorem dX10_init_8 : decode cX10_init 8 = .ok (.dup, 1) := by decide +kernel
theorem dX10_init_9 : decode cX10_init 9 = .ok (.invokespecial 9, 3) := by decide +kernel
theorem dX10_init_12 : decode cX10_init 12 = .ok (.putfield 10, 3) := by decide +kernel
theorem dX10_init_15 : decode cX10_init 15 = .ok (.aload_n 0, 1) := by decide +kernel
theorem dX10_init_16 : decode cX10_init 16 = .ok (.new 16, 3) := by decide +kernel
theorem dX10_init_19 : decode cX10_init 19 = .ok (.dup, 1) := by decide +kernel
theorem dX10_init_20 : decode cX10_init 20 = .ok (.invokespecial 18, 3) := by decide +kernel
theorem dX10_init_23 : decode cX10_init 23 = .ok (.putfield 19, 3) := by decide +kernel
theorem dX10_init_26 : decode cX10_init 26 = .ok (.aload_n 0, 1) := by decide +kernel
theorem dX10_init_27 : decode cX10_init 27 = .ok (.new 16, 3) := by decide +kernel
theorem dX10_init_30 : decode cX10_init 30 = .ok (.dup, 1) := by decide +kernel
theorem dX10_init_31 : decode cX10_init 31 = .ok (.invokespecial 18, 3) := by decide +kernel
theorem dX10_init_34 : decode cX10_init 34 = .ok (.putfield 23, 3) := by decide +kernel
theorem dX10_init_37 : decode cX10_init 37 = .ok (.aload_n 0, 1) := by decide +kernel
theorem dX10_init_38 : decode cX10_init 38 = .ok (.new 26, 3) := by decide +kernel
theorem dX10_init_41 : decode cX10_init 41 = .ok (.dup, 1) := by decide +kernel
theorem dX10_init_42 : decode cX10_init 42 = .ok (.aload_n 0, 1) := by decide +kernel
theorem dX10_init_43 : decode cX10_init 43 = .ok (.getfield 10, 3) := by decide +kernel
theorem dX10_init_46 : decode cX10_init 46 = .ok (.aload_n 0, 1) := by decide +kernel
theorem dX10_init_47 : decode cX10_init 47 = .ok (.getfield 23, 3) := by decide +kernel
theorem dX10_init_50 : decode cX10_init 50 = .ok (.invokespecial 28, 3) := by decide +kernel
theorem dX10_init_53 : decode cX10_init 53 = .ok (.putfield 31, 3) := by decide +kernel
theorem dX10_init_56 : decode cX10_init 56 = .ok (.aload_n 0, 1) := by decide +kernel
theorem dX10_init_57 : decode cX10_init 57 = .ok (.new 35, 3) := by decide +kernel
theorem dX10_init_60 : decode cX10_init 60 = .ok (.dup, 1) := by decide +kernel
theorem dX10_init_61 : decode cX10_init 61 = .ok (.aload_n 0, 1) := by decide +kernel
theorem dX10_init_62 : decode cX10_init 62 = .ok (.getfield 19, 3) := by decide +kernel
theorem dX10_init_65 : decode cX10_init 65 = .ok (.invokespecial 37, 3) := by decide +kernel
theorem dX10_init_68 : decode cX10_init 68 = .ok (.putfield 40, 3) := by decide +kernel
theorem dX10_init_71 : decode cX10_init 71 = .ok (.aload_n 0, 1) := by decide +kernel
theorem dX10_init_72 : decode cX10_init 72 = .ok (.new 44, 3) := by decide +kernel
theorem dX10_init_75 : decode cX10_init 75 = .ok (.dup, 1) := by decide +kernel
theorem dX10_init_76 : decode cX10_init 76 = .ok (.aload_n 0, 1) := by decide +kernel
theorem dX10_init_77 : decode cX10_init 77 = .ok (.getfield 19, 3) := by decide +kernel
theorem dX10_init_80 : decode cX10_init 80 = .ok (.aload_n 0, 1) := by decide +kernel
theorem dX10_init_81 : decode cX10_init 81 = .ok (.getfield 40, 3) := by decide +kernel
theorem dX10_init_84 : decode cX10_init 84 = .ok (.invokespecial 46, 3) := by decide +kernel
theorem dX10_init_87 : decode cX10_init 87 = .ok (.putfield 49, 3) := by decide +kernel
theorem dX10_init_90 : decode cX10_init 90 = .ok (.aload_n 0, 1) := by decide +kernel
theorem dX10_init_91 : decode cX10_init 91 = .ok (.new 53, 3) := by decide +kernel
theorem dX10_init_94 : decode cX10_init 94 = .ok (.dup, 1) := by decide +kernel
theorem dX10_init_95 : decode cX10_init 95 = .ok (.invokespecial 55, 3) := by decide +kernel
theorem dX10_init_98 : decode cX10_init 98 = .ok (.putfield 56, 3) := by decide +kernel
theorem dX10_init_101 : decode cX10_init 101 = .ok (.aload_n 0, 1) := by decide +kernel
theorem dX10_init_102 : decode cX10_init 102 = .ok (.new 60, 3) := by decide +kernel
theorem dX10_init_105 : decode cX10_init 105 = .ok (.dup, 1) := by decide +kernel
theorem dX10_init_106 : decode cX10_init 106 = .ok (.aload_n 0, 1) := by decide +kernel
theorem dX10_init_107 : decode cX10_init 107 = .ok (.getfield 19, 3) := by decide +kernel
theorem dX10_init_110 : decode cX10_init 110 = .ok (.aload_n 0, 1) := by decide +kernel
theorem dX10_init_111 : decode cX10_init 111 = .ok (.getfield 40, 3) := by decide +kernel
theorem dX10_init_114 : decode cX10_init 114 = .ok (.aload_n 0, 1) := by decide +kernel
theorem dX10_init_115 : decode cX10_init 115 = .ok (.getfield 56, 3) := by decide +kernel
theorem dX10_init_118 : decode cX10_init 118 = .ok (.invokespecial 62, 3) := by decide +kernel
theorem dX10_init_121 : decode cX10_init 121 = .ok (.putfield 65, 3) := by decide +kernel
theorem dX10_init_124 : decode cX10_init 124 = .ok (.aload_n 0, 1) := by decide +kernel
theorem dX10_init_125 : decode cX10_init 125 = .ok (.new 69, 3) := by decide +kernel
theorem dX10_init_128 : decode cX10_init 128 = .ok (.dup, 1) := by decide +kernel
theorem dX10_init_129 : decode cX10_init 129 = .ok (.aload_n 0, 1) := by decide +kernel
theorem dX10_init_130 : decode cX10_init 130 = .ok (.getfield 19, 3) := by decide +kernel
theorem dX10_init_133 : decode cX10_init 133 = .ok (.aload_n 0, 1) := by decide +kernel
theorem dX10_init_134 : decode cX10_init 134 = .ok (.getfield 40, 3) := by decide +kernel
theorem dX10_init_137 : decode cX10_init 137 = .ok (.aload_n 0, 1) := by decide +kernel
theorem dX10_init_138 : decode cX10_init 138 = .ok (.getfield 56, 3) := by decide +kernel
theorem dX10_init_141 : decode cX10_init 141 = .ok (.invokespecial 71, 3) := by decide +kernel
theorem dX10_init_144 : decode cX10_init 144 = .ok (.putfield 72, 3) := by decide +kernel
theorem dX10_init_147 : decode cX10_init 147 = .ok (.aload_n 0, 1) := by decide +kernel
theorem dX10_init_148 : decode cX10_init 148 = .ok (.bipush 40, 2) := by decide +kernel
theorem dX10_init_150 : decode cX10_init 150 = .ok (.newarray .int, 2) := by decide +kernel
theorem dX10_init_152 : decode cX10_init 152 = .ok (.putfield 76, 3) := by decide +kernel
theorem dX10_init_155 : decode cX10_init 155 = .ok (.aload_n 0, 1) := by decide +kernel
theorem dX10_init_156 : decode cX10_init 156 = .ok (.iconst 5, 1) := by decide +kernel
theorem dX10_init_157 : decode cX10_init 157 = .ok (.newarray .byte, 2) := by decide +kernel
theorem dX10_init_159 : decode cX10_init 159 = .ok (.putfield 80, 3) := by decide +kernel
theorem dX10_init_162 : decode cX10_init 162 = .ok (.aload_n 0, 1) := by decide +kernel
theorem dX10_init_163 : decode cX10_init 163 = .ok (.iconst 0, 1) := by decide +kernel
theorem dX10_init_164 : decode cX10_init 164 = .ok (.putfield 84, 3) := by decide +kernel
theorem dX10_init_167 : decode cX10_init 167 = .ok (.aload_n 0, 1) := by decide +kernel
theorem dX10_init_168 : decode cX10_init 168 = .ok (.iconst (-1), 1) := by decide +kernel
theorem dX10_init_169 : decode cX10_init 169 = .ok (.putfield 88, 3) := by decide +kernel
theorem dX10_init_172 : decode cX10_init 172 = .ok (.return_, 1) := by decide +kernel
theorem dX9_init_0 : decode cX9_init 0 = .ok (.aload_n 0, 1) := by decide +kernel
theorem dX9_init_1 : decode cX9_init 1 = .ok (.invokespecial 3, 3) := by decide +kernel
theorem dX9_init_4 : decode cX9_init 4 = .ok (.aload_n 0, 1) := by decide +kernel
theorem dX9_init_5 : decode cX9_init 5 = .ok (.sipush 400, 3) := by decide +kernel
theorem dX9_init_8 : decode cX9_init 8 = .ok (.newarray .byte, 2) := by decide +kernel
theorem dX9_init_10 : decode cX9_init 10 = .ok (.putfield 11, 3) := by decide +kernel
theorem dX9_init_13 : decode cX9_init 13 = .ok (.return_, 1) := by decide +kernel
theorem dX6_init_0 : decode cX6_init 0 = .ok (.aload_n 0, 1) := by decide +kernel
theorem dX6_init_1 : decode cX6_init 1 = .ok (.invokespecial 3, 3) := by decide +kernel
theorem dX6_init_4 : decode cX6_init 4 = .ok (.aload_n 0, 1) := by decide +kernel
theorem dX6_init_5 : decode cX6_init 5 = .ok (.iconst 5, 1) := by decide +kernel
theorem dX6_init_6 : decode cX6_init 6 = .ok (.newarray .int, 2) := by decide +kernel
theorem dX6_init_8 : decode cX6_init 8 = .ok (.putfield 9, 3) := by decide +kernel
theorem dX6_init_11 : decode cX6_init 11 = .ok (.aload_n 0, 1) := by decide +kernel
theorem dX6_init_12 : decode cX6_init 12 = .ok (.iconst 5, 1) := by decide +kernel
theorem dX6_init_13 : decode cX6_init 13 = .ok (.newarray .int, 2) := by decide +kernel
theorem dX6_init_15 : decode cX6_init 15 = .ok (.putfield 15, 3) := by decide +kernel
theorem dX6_init_18 : decode cX6_init 18 = .ok (.aload_n 0, 1) := by decide +kernel
theorem dX6_init_19 : decode cX6_init 19 = .ok (.iconst 5, 1) := by decide +kernel
theorem dX6_init_20 : decode cX6_init 20 = .ok (.newarray .int, 2) := by decide +kernel
theorem dX6_init_22 : decode cX6_init 22 = .ok (.putfield 18, 3) := by decide +kernel
theorem dX6_init_25 : decode cX6_init 25 = .ok (.aload_n 0, 1) := by decide +kernel
theorem dX6_init_26 : decode cX6_init 26 = .ok (.bipush 30, 2) := by decide +kernel
theorem dX6_init_28 : decode cX6_init 28 = .ok (.newarray .byte, 2) := by decide +kernel
theorem dX6_init_30 : decode cX6_init 30 = .ok (.putfield 21, 3) := by decide +kernel
theorem dX6_init_33 : decode cX6_init 33 = .ok (.aload_n 0, 1) := by decide +kernel
theorem dX6_init_34 : decode cX6_init 34 = .ok (.iconst 5, 1) := by decide +kernel
theorem dX6_init_35 : decode cX6_init 35 = .ok (.newarray .int, 2) := by decide +kernel
theorem dX6_init_37 : decode cX6_init 37 = .ok (.putfield 25, 3) := by decide +kernel
theorem dX6_init_40 : decode cX6_init 40 = .ok (.aload_n 0, 1) := by decide +kernel
theorem dX6_init_41 : decode cX6_init 41 = .ok (.iconst (-1), 1) := by decide +kernel
theorem dX6_init_42 : decode cX6_init 42 = .ok (.putfield 28, 3) := by decide +kernel
theorem dX6_init_45 : decode cX6_init 45 = .ok (.aload_n 0, 1) := by decide +kernel
theorem dX6_init_46 : decode cX6_init 46 = .ok (.bipush 30, 2) := by decide +kernel
theorem dX6_init_48 : decode cX6_init 48 = .ok (.newarray .int, 2) := by decide +kernel
theorem dX6_init_50 : decode cX6_init 50 = .ok (.putfield 32, 3) := by decide +kernel
theorem dX6_init_53 : decode cX6_init 53 = .ok (.aload_n 0, 1) := by decide +kernel
theorem dX6_init_54 : decode cX6_init 54 = .ok (.bipush 40, 2) := by decide +kernel
theorem dX6_init_56 : decode cX6_init 56 = .ok (.newarray .int, 2) := by decide +kernel
theorem dX6_init_58 : decode cX6_init 58 = .ok (.putfield 35, 3) := by decide +kernel
theorem dX6_init_61 : decode cX6_init 61 = .ok (.return_, 1) := by decide +kernel
theorem dX7_init_0 : decode cX7_init 0 = .ok (.aload_n 0, 1) := by decide +kernel
theorem dX7_init_1 : decode cX7_init 1 = .ok (.invokespecial 3, 3) := by decide +kernel
theorem dX7_init_4 : decode cX7_init 4 = .ok (.aload_n 0, 1) := by decide +kernel
theorem dX7_init_5 : decode cX7_init 5 = .ok (.aload_n 1, 1) := by decide +kernel
theorem dX7_init_6 : decode cX7_init 6 = .ok (.putfield 9, 3) := by decide +kernel
theorem dX7_init_9 : decode cX7_init 9 = .ok (.aload_n 0, 1) := by decide +kernel
theorem dX7_init_10 : decode cX7_init 10 = .ok (.aload_n 2, 1) := by decide +kernel
theorem dX7_init_11 : decode cX7_init 11 = .ok (.putfield 15, 3) := by decide +kernel
theorem dX7_init_14 : decode cX7_init 14 = .ok (.return_, 1) := by decide +kernel
theorem dX5_init_0 : decode cX5_init 0 = .ok (.aload_n 0, 1) := by decide +kernel
theorem dX5_init_1 : decode cX5_init 1 = .ok (.invokespecial 3, 3) := by decide +kernel
theorem dX5_init_4 : decode cX5_init 4 = .ok (.aload_n 0, 1) := by decide +kernel
theorem dX5_init_5 : decode cX5_init 5 = .ok (.bipush 30, 2) := by decide +kernel
theorem dX5_init_7 : decode cX5_init 7 = .ok (.newarray .int, 2) := by decide +kernel
theorem dX5_init_9 : decode cX5_init 9 = .ok (.putfield 11, 3) := by decide +kernel
theorem dX5_init_12 : decode cX5_init 12 = .ok (.aload_n 0, 1) := by decide +kernel
theorem dX5_init_13 : decode cX5_init 13 = .ok (.bipush 32, 2) := by decide +kernel
theorem dX5_init_15 : decode cX5_init 15 = .ok (.newarray .int, 2) := by decide +kernel
theorem dX5_init_17 : decode cX5_init 17 = .ok (.putfield 15, 3) := by decide +kernel
theorem dX5_init_20 : decode cX5_init 20 = .ok (.aload_n 0, 1) := by decide +kernel
theorem dX5_init_21 : decode cX5_init 21 = .ok (.bipush 32, 2) := by decide +kernel
theorem dX5_init_23 : decode cX5_init 23 = .ok (.newarray .long, 2) := by decide +kernel
theorem dX5_init_25 : decode cX5_init 25 = .ok (.putfield 18, 3) := by decide +kernel
theorem dX5_init_28 : decode cX5_init 28 = .ok (.aload_n 0, 1) := by decide +kernel
theorem dX5_init_29 : decode cX5_init 29 = .ok (.bipush 64, 2) := by decide +kernel
theorem dX5_init_31 : decode cX5_init 31 = .ok (.newarray .int, 2) := by decide +kernel
theorem dX5_init_33 : decode cX5_init 33 = .ok (.putfield 22, 3) := by decide +kernel
theorem dX5_init_36 : decode cX5_init 36 = .ok (.aload_n 0, 1) := by decide +kernel
theorem dX5_init_37 : decode cX5_init 37 = .ok (.bipush 64, 2) := by decide +kernel
theorem dX5_init_39 : decode cX5_init 39 = .ok (.newarray .int, 2) := by decide +kernel
theorem dX5_init_41 : decode cX5_init 41 = .ok (.putfield 25, 3) := by decide +kernel
theorem dX5_init_44 : decode cX5_init 44 = .ok (.aload_n 0, 1) := by decide +kernel
theorem dX5_init_45 : decode cX5_init 45 = .ok (.aload_n 1, 1) := by decide +kernel
theorem dX5_init_46 : decode cX5_init 46 = .ok (.putfield 28, 3) := by decide +kernel
theorem dX5_init_49 : decode cX5_init 49 = .ok (.return_, 1) := by decide +kernel
theorem dX0_init_0 : decode cX0_init 0 = .ok (.aload_n 0, 1) := by decide +kernel
theorem dX0_init_1 : decode cX0_init 1 = .ok (.invokespecial 3, 3) := by decide +kernel
theorem dX0_init_4 : decode cX0_init 4 = .ok (.aload_n 0, 1) := by decide +kernel
theorem dX0_init_5 : decode cX0_init 5 = .ok (.bipush 64, 2) := by decide +kernel
theorem dX0_init_7 : decode cX0_init 7 = .ok (.newarray .int, 2) := by decide +kernel
theorem dX0_init_9 : decode cX0_init 9 = .ok (.putfield 9, 3) := by decide +kernel
theorem dX0_init_12 : decode cX0_init 12 = .ok (.aload_n 0, 1) := by decide +kernel
theorem dX0_init_13 : decode cX0_init 13 = .ok (.iconst 5, 1) := by decide +kernel
theorem dX0_init_14 : decode cX0_init 14 = .ok (.newarray .int, 2) := by decide +kernel
theorem dX0_init_16 : decode cX0_init 16 = .ok (.putfield 15, 3) := by decide +kernel
theorem dX0_init_19 : decode cX0_init 19 = .ok (.aload_n 0, 1) := by decide +kernel
theorem dX0_init_20 : decode cX0_init 20 = .ok (.bipush 6, 2) := by decide +kernel
theorem dX0_init_22 : decode cX0_init 22 = .ok (.newarray .long, 2) := by decide +kernel
theorem dX0_init_24 : decode cX0_init 24 = .ok (.putfield 18, 3) := by decide +kernel
theorem dX0_init_27 : decode cX0_init 27 = .ok (.aload_n 0, 1) := by decide +kernel
theorem dX0_init_28 : decode cX0_init 28 = .ok (.bipush 25, 2) := by decide +kernel
theorem dX0_init_30 : decode cX0_init 30 = .ok (.newarray .long, 2) := by decide +kernel
theorem dX0_init_32 : decode cX0_init 32 = .ok (.putfield 22, 3) := by decide +kernel
theorem dX0_init_35 : decode cX0_init 35 = .ok (.aload_n 0, 1) := by decide +kernel
theorem dX0_init_36 : decode cX0_init 36 = .ok (.aload_n 1, 1) := by decide +kernel
theorem dX0_init_37 : decode cX0_init 37 = .ok (.putfield 25, 3) := by decide +kernel
theorem dX0_init_40 : decode cX0_init 40 = .ok (.aload_n 0, 1) := by decide +kernel
theorem dX0_init_41 : decode cX0_init 41 = .ok (.aload_n 2, 1) := by decide +kernel
theorem dX0_init_42 : decode cX0_init 42 = .ok (.putfield 29, 3) := by decide +kernel
theorem dX0_init_45 : decode cX0_init 45 = .ok (.return_, 1) := by decide +kernel
theorem dX8_init_0 : decode cX8_init 0 = .ok (.aload_n 0, 1) := by decide +kernel
theorem dX8_init_1 : decode cX8_init 1 = .ok (.invokespecial 3, 3) := by decide +kernel
theorem dX8_init_4 : decode cX8_init 4 = .ok (.aload_n 0, 1) := by decide +kernel
theorem dX8_init_5 : decode cX8_init 5 = .ok (.bipush 40, 2) := by decide +kernel
theorem dX8_init_7 : decode cX8_init 7 = .ok (.newarray .int, 2) := by decide +kernel
theorem dX8_init_9 : decode cX8_init 9 = .ok (.putfield 9, 3) := by decide +kernel
theorem dX8_init_12 : decode cX8_init 12 = .ok (.aload_n 0, 1) := by decide +kernel
theorem dX8_init_13 : decode cX8_init 13 = .ok (.sipush 656, 3) := by decide +kernel
theorem dX8_init_16 : decode cX8_init 16 = .ok (.newarray .int, 2) := by decide +kernel
theorem dX8_init_18 : decode cX8_init 18 = .ok (.putfield 15, 3) := by decide +kernel
theorem dX8_init_21 : decode cX8_init 21 = .ok (.return_, 1) := by decide +kernel
theorem dX2_init_0 : decode cX2_init 0 = .ok (.aload_n 0, 1) := by decide +kernel
theorem dX2_init_1 : decode cX2_init 1 = .ok (.invokespecial 3, 3) := by decide +kernel
theorem dX2_init_4 : decode cX2_init 4 = .ok (.aload_n 0, 1) := by decide +kernel
theorem dX2_init_5 : decode cX2_init 5 = .ok (.bipush 40, 2) := by decide +kernel
theorem dX2_init_7 : decode cX2_init 7 = .ok (.newarray .int, 2) := by decide +kernel
theorem dX2_init_9 : decode cX2_init 9 = .ok (.putfield 9, 3) := by decide +kernel
theorem dX2_init_12 : decode cX2_init 12 = .ok (.aload_n 0, 1) := by decide +kernel
theorem dX2_init_13 : decode cX2_init 13 = .ok (.bipush 40, 2) := by decide +kernel
theorem dX2_init_15 : decode cX2_init 15 = .ok (.newarray .int, 2) := by decide +kernel
theorem dX2_init_17 : decode cX2_init 17 = .ok (.putfield 15, 3) := by decide +kernel
theorem dX2_init_20 : decode cX2_init 20 = .ok (.aload_n 0, 1) := by decide +kernel
theorem dX2_init_21 : decode cX2_init 21 = .ok (.aload_n 1, 1) := by decide +kernel
theorem dX2_init_22 : decode cX2_init 22 = .ok (.putfield 18, 3) := by decide +kernel
theorem dX2_init_25 : decode cX2_init 25 = .ok (.aload_n 0, 1) := by decide +kernel
theorem dX2_init_26 : decode cX2_init 26 = .ok (.aload_n 2, 1) := by decide +kernel
theorem dX2_init_27 : decode cX2_init 27 = .ok (.putfield 22, 3) := by decide +kernel
theorem dX2_init_30 : decode cX2_init 30 = .ok (.aload_n 0, 1) := by decide +kernel
theorem dX2_init_31 : decode cX2_init 31 = .ok (.aload_n 3, 1) := by decide +kernel
theorem dX2_init_32 : decode cX2_init 32 = .ok (.putfield 26, 3) := by decide +kernel
theorem dX2_init_35 : decode cX2_init 35 = .ok (.return_, 1) := by decide +kernel
theorem dX4_init_0 : decode cX4_init 0 = .ok (.aload_n 0, 1) := by decide +kernel
theorem dX4_init_1 : decode cX4_init 1 = .ok (.invokespecial 3, 3) := by decide +kernel
theorem dX4_init_4 : decode cX4_init 4 = .ok (.aload_n 0, 1) := by decide +kernel
theorem dX4_init_5 : decode cX4_init 5 = .ok (.bipush 40, 2) := by decide +kernel
theorem dX4_init_7 : decode cX4_init 7 = .ok (.newarray .int, 2) := by decide +kernel
theorem dX4_init_9 : decode cX4_init 9 = .ok (.putfield 9, 3) := by decide +kernel
theorem dX4_init_12 : decode cX4_init 12 = .ok (.aload_n 0, 1) := by decide +kernel
theorem dX4_init_13 : decode cX4_init 13 = .ok (.bipush 40, 2) := by decide +kernel
theorem dX4_init_15 : decode cX4_init 15 = .ok (.newarray .int, 2) := by decide +kernel
theorem dX4_init_17 : decode cX4_init 17 = .ok (.putfield 15, 3) := by decide +kernel
theorem dX4_init_20 : decode cX4_init 20 = .ok (.aload_n 0, 1) := by decide +kernel
theorem dX4_init_21 : decode cX4_init 21 = .ok (.aload_n 1, 1) := by decide +kernel
theorem dX4_init_22 : decode cX4_init 22 = .ok (.putfield 18, 3) := by decide +kernel
theorem dX4_init_25 : decode cX4_init 25 = .ok (.aload_n 0, 1) := by decide +kernel
theorem dX4_init_26 : decode cX4_init 26 = .ok (.aload_n 2, 1) := by decide +kernel
theorem dX4_init_27 : decode cX4_init 27 = .ok (.putfield 22, 3) := by decide +kernel
theorem dX4_init_30 : decode cX4_init 30 = .ok (.aload_n 0, 1) := by decide +kernel
theorem dX4_init_31 : decode cX4_init 31 = .ok (.aload_n 3, 1) := by decide +kernel
theorem dX4_init_32 : decode cX4_init 32 = .ok (.putfield 26, 3) := by decide +kernel
theorem dX4_init_35 : decode cX4_init 35 = .ok (.return_, 1) := by decide +kernel
theorem dX11_init_0 : decode cX11_init 0 = .ok (.aload_n 0, 1) := by decide +kernel
theorem dX11_init_1 : decode cX11_init 1 = .ok (.invokespecial 1, 3) := by decide +kernel
theorem dX11_init_4 : decode cX11_init 4 = .ok (.aload_n 0, 1) := by decide +kernel
theorem dX11_init_5 : decode cX11_init 5 = .ok (.sipush 400, 3) := by decide +kernel
theorem dX11_init_8 : decode cX11_init 8 = .ok (.newarray .int, 2) := by decide +kernel
theorem dX11_init_10 : decode cX11_init 10 = .ok (.putfield 7, 3) := by decide +kernel
theorem dX11_init_13 : decode cX11_init 13 = .ok (.aload_n 0, 1) := by decide +kernel
theorem dX11_init_14 : decode cX11_init 14 = .ok (.iconst (-1), 1) := by decide +kernel
theorem dX11_init_15 : decode cX11_init 15 = .ok (.putfield 13, 3) := by decide +kernel
theorem dX11_init_18 : decode cX11_init 18 = .ok (.aload_n 0, 1) := by decide +kernel
theorem dX11_init_19 : decode cX11_init 19 = .ok (.iconst 5, 1) := by decide +kernel
theorem dX11_init_20 : decode cX11_init 20 = .ok (.newarray .long, 2) := by decide +kernel
theorem dX11_init_22 : decode cX11_init 22 = .ok (.putfield 17, 3) := by decide +kernel
theorem dX11_init_25 : decode cX11_init 25 = .ok (.aload_n 0, 1) := by decide +kernel
theorem dX11_init_26 : decode cX11_init 26 = .ok (.iconst 5, 1) := by decide +kernel
theorem dX11_init_27 : decode cX11_init 27 = .ok (.newarray .int, 2) := by decide +kernel
theorem dX11_init_29 : decode cX11_init 29 = .ok (.putfield 21, 3) := by decide +kernel
theorem dX11_init_32 : decode cX11_init 32 = .ok (.aload_n 0, 1) := by decide +kernel
theorem dX11_init_33 : decode cX11_init 33 = .ok (.iconst 5, 1) := by decide +kernel
theorem dX11_init_34 : decode cX11_init 34 = .ok (.newarray .int, 2) := by decide +kernel
theorem dX11_init_36 : decode cX11_init 36 = .ok (.putfield 24, 3) := by decide +kernel
theorem dX11_init_39 : decode cX11_init 39 = .ok (.aload_n 0, 1) := by decide +kernel
theorem dX11_init_40 : decode cX11_init 40 = .ok (.iconst 5, 1) := by decide +kernel
theorem dX11_init_41 : decode cX11_init 41 = .ok (.newarray .boolean, 2) := by decide +kernel
theorem dX11_init_43 : decode cX11_init 43 = .ok (.putfield 27, 3) := by decide +kernel
theorem dX11_init_46 : decode cX11_init 46 = .ok (.aload_n 0, 1) := by decide +kernel
theorem dX11_init_47 : decode cX11_init 47 = .ok (.bipush 30, 2) := by decide +kernel
theorem dX11_init_49 : decode cX11_init 49 = .ok (.newarray .int, 2) := by decide +kernel
theorem dX11_init_51 : decode cX11_init 51 = .ok (.putfield 31, 3) := by decide +kernel
theorem dX11_init_54 : decode cX11_init 54 = .ok (.aload_n 0, 1) := by decide +kernel
theorem dX11_init_55 : decode cX11_init 55 = .ok (.sipush 200, 3) := by decide +kernel
theorem dX11_init_58 : decode cX11_init 58 = .ok (.newarray .int, 2) := by decide +kernel
theorem dX11_init_60 : decode cX11_init 60 = .ok (.putfield 34, 3) := by decide +kernel
theorem dX11_init_63 : decode cX11_init 63 = .ok (.aload_n 0, 1) := by decide +kernel
theorem dX11_init_64 : decode cX11_init 64 = .ok (.iconst (-1), 1) := by decide +kernel
theorem dX11_init_65 : decode cX11_init 65 = .ok (.putfield 37, 3) := by decide +kernel
theorem dX11_init_68 : decode cX11_init 68 = .ok (.aload_n 0, 1) := by decide +kernel
theorem dX11_init_69 : decode cX11_init 69 = .ok (.iconst 5, 1) := by decide +kernel
theorem dX11_init_70 : decode cX11_init 70 = .ok (.newarray .long, 2) := by decide +kernel
theorem dX11_init_72 : decode cX11_init 72 = .ok (.putfield 40, 3) := by decide +kernel
theorem dX11_init_75 : decode cX11_init 75 = .ok (.aload_n 0, 1) := by decide +kernel
theorem dX11_init_76 : decode cX11_init 76 = .ok (.iconst 5, 1) := by decide +kernel
theorem dX11_init_77 : decode cX11_init 77 = .ok (.newarray .int, 2) := by decide +kernel
theorem dX11_init_79 : decode cX11_init 79 = .ok (.putfield 43, 3) := by decide +kernel
theorem dX11_init_82 : decode cX11_init 82 = .ok (.aload_n 0, 1) := by decide +kernel
theorem dX11_init_83 : decode cX11_init 83 = .ok (.iconst 5, 1) := by decide +kernel
theorem dX11_init_84 : decode cX11_init 84 = .ok (.newarray .int, 2) := by decide +kernel
theorem dX11_init_86 : decode cX11_init 86 = .ok (.putfield 46, 3) := by decide +kernel
theorem dX11_init_89 : decode cX11_init 89 = .ok (.aload_n 0, 1) := by decide +kernel
theorem dX11_init_90 : decode cX11_init 90 = .ok (.iconst 5, 1) := by decide +kernel
theorem dX11_init_91 : decode cX11_init 91 = .ok (.newarray .boolean, 2) := by decide +kernel
theorem dX11_init_93 : decode cX11_init 93 = .ok (.putfield 49, 3) := by decide +kernel
theorem dX11_init_96 : decode cX11_init 96 = .ok (.aload_n 0, 1) := by decide +kernel
theorem dX11_init_97 : decode cX11_init 97 = .ok (.bipush 30, 2) := by decide +kernel
theorem dX11_init_99 : decode cX11_init 99 = .ok (.newarray .int, 2) := by decide +kernel
theorem dX11_init_101 : decode cX11_init 101 = .ok (.putfield 52, 3) := by decide +kernel
theorem dX11_init_104 : decode cX11_init 104 = .ok (.aload_n 0, 1) := by decide +kernel
theorem dX11_init_105 : decode cX11_init 105 = .ok (.sipush 200, 3) := by decide +kernel
theorem dX11_init_108 : decode cX11_init 108 = .ok (.newarray .int, 2) := by decide +kernel
theorem dX11_init_110 : decode cX11_init 110 = .ok (.putfield 55, 3) := by decide +kernel
theorem dX11_init_113 : decode cX11_init 113 = .ok (.aload_n 0, 1) := by decide +kernel
theorem dX11_init_114 : decode cX11_init 114 = .ok (.sipush 3125, 3) := by decide +kernel
theorem dX11_init_117 : decode cX11_init 117 = .ok (.newarray .int, 2) := by decide +kernel
theorem dX11_init_119 : decode cX11_init 119 = .ok (.putfield 58, 3) := by decide +kernel
theorem dX11_init_122 : decode cX11_init 122 = .ok (.aload_n 0, 1) := by decide +kernel
theorem dX11_init_123 : decode cX11_init 123 = .ok (.sipush 3125, 3) := by decide +kernel
theorem dX11_init_126 : decode cX11_init 126 = .ok (.newarray .boolean, 2) := by decide +kernel
theorem dX11_init_128 : decode cX11_init 128 = .ok (.putfield 61, 3) := by decide +kernel
theorem dX11_init_131 : decode cX11_init 131 = .ok (.aload_n 0, 1) := by decide +kernel
theorem dX11_init_132 : decode cX11_init 132 = .ok (.iconst 5, 1) := by decide +kernel
theorem dX11_init_133 : decode cX11_init 133 = .ok (.newarray .int, 2) := by decide +kernel
theorem dX11_init_135 : decode cX11_init 135 = .ok (.dup, 1) := by decide +kernel
theorem dX11_init_136 : decode cX11_init 136 = .ok (.iconst 0, 1) := by decide +kernel
theorem dX11_init_137 : decode cX11_init 137 = .ok (.sipush 625, 3) := by decide +kernel
theorem dX11_init_140 : decode cX11_init 140 = .ok (.iastore, 1) := by decide +kernel
theorem dX11_init_141 : decode cX11_init 141 = .ok (.dup, 1) := by decide +kernel
theorem dX11_init_142 : decode cX11_init 142 = .ok (.iconst 1, 1) := by decide +kernel
theorem dX11_init_143 : decode cX11_init 143 = .ok (.bipush 125, 2) := by decide +kernel
theorem dX11_init_145 : decode cX11_init 145 = .ok (.iastore, 1) := by decide +kernel
theorem dX11_init_146 : decode cX11_init 146 = .ok (.dup, 1) := by decide +kernel
theorem dX11_init_147 : decode cX11_init 147 = .ok (.iconst 2, 1) := by decide +kernel
theorem dX11_init_148 : decode cX11_init 148 = .ok (.bipush 25, 2) := by decide +kernel
theorem dX11_init_150 : decode cX11_init 150 = .ok (.iastore, 1) := by decide +kernel
theorem dX11_init_151 : decode cX11_init 151 = .ok (.dup, 1) := by decide +kernel
theorem dX11_init_152 : decode cX11_init 152 = .ok (.iconst 3, 1) := by decide +kernel
theorem dX11_init_153 : decode cX11_init 153 = .ok (.iconst 5, 1) := by decide +kernel
theorem dX11_init_154 : decode cX11_init 154 = .ok (.iastore, 1) := by decide +kernel
theorem dX11_init_155 : decode cX11_init 155 = .ok (.dup, 1) := by decide +kernel
theorem dX11_init_156 : decode cX11_init 156 = .ok (.iconst 4, 1) := by decide +kernel
theorem dX11_init_157 : decode cX11_init 157 = .ok (.iconst 1, 1) := by decide +kernel
theorem dX11_init_158 : decode cX11_init 158 = .ok (.iastore, 1) := by decide +kernel
theorem dX11_init_159 : decode cX11_init 159 = .ok (.putfield 64, 3) := by decide +kernel
theorem dX11_init_162 : decode cX11_init 162 = .ok (.aload_n 0, 1) := by decide +kernel
theorem dX11_init_163 : decode cX11_init 163 = .ok (.iconst (-1), 1) := by decide +kernel
theorem dX11_init_164 : decode cX11_init 164 = .ok (.putfield 67, 3) := by decide +kernel
theorem dX11_init_167 : decode cX11_init 167 = .ok (.aload_n 0, 1) := by decide +kernel
theorem dX11_init_168 : decode cX11_init 168 = .ok (.ldc 70, 2) := by decide +kernel
theorem dX11_init_170 : decode cX11_init 170 = .ok (.newarray .int, 2) := by decide +kernel
theorem dX11_init_172 : decode cX11_init 172 = .ok (.putfield 71, 3) := by decide +kernel
theorem dX11_init_175 : decode cX11_init 175 = .ok (.aload_n 0, 1) := by decide +kernel
theorem dX11_init_176 : decode cX11_init 176 = .ok (.iconst 5, 1) := by decide +kernel
theorem dX11_init_177 : decode cX11_init 177 = .ok (.newarray .int, 2) := by decide +kernel
theorem dX11_init_179 : decode cX11_init 179 = .ok (.putfield 74, 3) := by decide +kernel
theorem dX11_init_182 : decode cX11_init 182 = .ok (.aload_n 0, 1) := by decide +kernel
theorem dX11_init_183 : decode cX11_init 183 = .ok (.bipush 16, 2) := by decide +kernel
theorem dX11_init_185 : decode cX11_init 185 = .ok (.newarray .int, 2) := by decide +kernel
theorem dX11_init_187 : decode cX11_init 187 = .ok (.putfield 77, 3) := by decide +kernel
theorem dX11_init_190 : decode cX11_init 190 = .ok (.aload_n 0, 1) := by decide +kernel
theorem dX11_init_191 : decode cX11_init 191 = .ok (.sipush 3200, 3) := by decide +kernel
theorem dX11_init_194 : decode cX11_init 194 = .ok (.newarray .int, 2) := by decide +kernel
theorem dX11_init_196 : decode cX11_init 196 = .ok (.putfield 80, 3) := by decide +kernel
theorem dX11_init_199 : decode cX11_init 199 = .ok (.aload_n 0, 1) := by decide +kernel
theorem dX11_init_200 : decode cX11_init 200 = .ok (.iconst 5, 1) := by decide +kernel
theorem dX11_init_201 : decode cX11_init 201 = .ok (.newarray .int, 2) := by decide +kernel
theorem dX11_init_203 : decode cX11_init 203 = .ok (.putfield 83, 3) := by decide +kernel
theorem dX11_init_206 : decode cX11_init 206 = .ok (.aload_n 0, 1) := by decide +kernel
theorem dX11_init_207 : decode cX11_init 207 = .ok (.bipush 40, 2) := by decide +kernel
theorem dX11_init_209 : decode cX11_init 209 = .ok (.newarray .int, 2) := by decide +kernel
theorem dX11_init_211 : decode cX11_init 211 = .ok (.putfield 86, 3) := by decide +kernel
theorem dX11_init_214 : decode cX11_init 214 = .ok (.aload_n 0, 1) := by decide +kernel
theorem dX11_init_215 : decode cX11_init 215 = .ok (.bipush 40, 2) := by decide +kernel
theorem dX11_init_217 : decode cX11_init 217 = .ok (.newarray .int, 2) := by decide +kernel
theorem dX11_init_219 : decode cX11_init 219 = .ok (.putfield 89, 3) := by decide +kernel
theorem dX11_init_222 : decode cX11_init 222 = .ok (.aload_n 0, 1) := by decide +kernel
theorem dX11_init_223 : decode cX11_init 223 = .ok (.bipush 40, 2) := by decide +kernel
theorem dX11_init_225 : decode cX11_init 225 = .ok (.newarray .int, 2) := by decide +kernel
theorem dX11_init_227 : decode cX11_init 227 = .ok (.putfield 92, 3) := by decide +kernel
theorem dX11_init_230 : decode cX11_init 230 = .ok (.aload_n 0, 1) := by decide +kernel
theorem dX11_init_231 : decode cX11_init 231 = .ok (.bipush 40, 2) := by decide +kernel
theorem dX11_init_233 : decode cX11_init 233 = .ok (.newarray .int, 2) := by decide +kernel
theorem dX11_init_235 : decode cX11_init 235 = .ok (.putfield 95, 3) := by decide +kernel
theorem dX11_init_238 : decode cX11_init 238 = .ok (.aload_n 0, 1) := by decide +kernel
theorem dX11_init_239 : decode cX11_init 239 = .ok (.bipush 40, 2) := by decide +kernel
theorem dX11_init_241 : decode cX11_init 241 = .ok (.newarray .int, 2) := by decide +kernel
theorem dX11_init_243 : decode cX11_init 243 = .ok (.putfield 98, 3) := by decide +kernel
theorem dX11_init_246 : decode cX11_init 246 = .ok (.aload_n 0, 1) := by decide +kernel
theorem dX11_init_247 : decode cX11_init 247 = .ok (.bipush 40, 2) := by decide +kernel
theorem dX11_init_249 : decode cX11_init 249 = .ok (.newarray .int, 2) := by decide +kernel
theorem dX11_init_251 : decode cX11_init 251 = .ok (.putfield 101, 3) := by decide +kernel
theorem dX11_init_254 : decode cX11_init 254 = .ok (.aload_n 0, 1) := by decide +kernel
theorem dX11_init_255 : decode cX11_init 255 = .ok (.bipush 40, 2) := by decide +kernel
theorem dX11_init_257 : decode cX11_init 257 = .ok (.newarray .int, 2) := by decide +kernel
theorem dX11_init_259 : decode cX11_init 259 = .ok (.putfield 104, 3) := by decide +kernel
theorem dX11_init_262 : decode cX11_init 262 = .ok (.aload_n 0, 1) := by decide +kernel
theorem dX11_init_263 : decode cX11_init 263 = .ok (.iconst 5, 1) := by decide +kernel
theorem dX11_init_264 : decode cX11_init 264 = .ok (.newarray .int, 2) := by decide +kernel
theorem dX11_init_266 : decode cX11_init 266 = .ok (.putfield 107, 3) := by decide +kernel
theorem dX11_init_269 : decode cX11_init 269 = .ok (.aload_n 0, 1) := by decide +kernel
theorem dX11_init_270 : decode cX11_init 270 = .ok (.invokevirtual 110, 3) := by decide +kernel
theorem dX11_init_273 : decode cX11_init 273 = .ok (.return_, 1) := by decide +kernel
def zDm : List zDs := zD.take 72
theorem zDm_n : zDm.length = 72 := by rfl
theorem DM_42 : zDm[42]? = some (.inl (9, [(0, 0), (1, 43), (0, 0), (0, 0), (0, 0), (0, 0), (0, 0), (0, 0), (0, 0), (0, 0), (1, 44), (1, 45), (1, 46), (1, 47), (1, 48), (1, 49), (0, 0), (0, 0), (0, 0), (0, 0), (1, 50), (1, 51), (1, 52), (1, 53), (1, 54), (1, 55), (1, 56), (1, 57), (1, 58), (0, 0), (1, 59), (1, 60), (0, 0), (1, 61), (1, 62), (1, 63), (0, 0), (1, 64), (1, 65), (1, 66), (1, 67), (1, 68), (0, 0), (1, 69), (1, 70), (1, 71), (0, 0)])) := by rfl
theorem DM_43 : zDm[43]? = some (.inr (0, 400)) := by rfl
theorem DM_44 : zDm[44]? = some (.inr (3, 5)) := by rfl
theorem DM_45 : zDm[45]? = some (.inr (0, 5)) := by rfl
theorem DM_46 : zDm[46]? = some (.inr (0, 5)) := by rfl
theorem DM_47 : zDm[47]? = some (.inr (2, 5)) := by rfl
theorem DM_48 : zDm[48]? = some (.inr (0, 30)) := by rfl
theorem DM_49 : zDm[49]? = some (.inr (0, 200)) := by rfl
theorem DM_50 : zDm[50]? = some (.inr (3, 5)) := by rfl
theorem DM_51 : zDm[51]? = some (.inr (0, 5)) := by rfl
theorem DM_52 : zDm[52]? = some (.inr (0, 5)) := by rfl
theorem DM_53 : zDm[53]? = some (.inr (2, 5)) := by rfl
theorem DM_54 : zDm[54]? = some (.inr (0, 30)) := by rfl
theorem DM_55 : zDm[55]? = some (.inr (0, 200)) := by rfl
theorem DM_56 : zDm[56]? = some (.inr (0, 3125)) := by rfl
theorem DM_57 : zDm[57]? = some (.inr (2, 3125)) := by rfl
theorem DM_58 : zDm[58]? = some (.inr (0, 5)) := by rfl
theorem DM_59 : zDm[59]? = some (.inr (0, 150000)) := by rfl
theorem DM_60 : zDm[60]? = some (.inr (0, 5)) := by rfl
theorem DM_61 : zDm[61]? = some (.inr (0, 16)) := by rfl
theorem DM_62 : zDm[62]? = some (.inr (0, 3200)) := by rfl
theorem DM_63 : zDm[63]? = some (.inr (0, 5)) := by rfl
theorem DM_64 : zDm[64]? = some (.inr (0, 40)) := by rfl
theorem DM_65 : zDm[65]? = some (.inr (0, 40)) := by rfl
theorem DM_66 : zDm[66]? = some (.inr (0, 40)) := by rfl
theorem DM_67 : zDm[67]? = some (.inr (0, 40)) := by rfl
theorem DM_68 : zDm[68]? = some (.inr (0, 40)) := by rfl
theorem DM_69 : zDm[69]? = some (.inr (0, 40)) := by rfl
theorem DM_70 : zDm[70]? = some (.inr (0, 40)) := by rfl
theorem DM_71 : zDm[71]? = some (.inr (0, 5)) := by rfl
section ZCallsM
variable {x : zXx} {cc bytes : ByteArray} {nL maxL : Nat} {own : String} {ret ret' : Option FieldType} {F fr pc : Nat} {ls : List (Nat × Value)} {st : List Value} {σ σ' : zS} {A B A' B' nc ns n index : Nat} {y : MethodName} {E : String}
theorem zm_csI {v : Int32} (hG : zG x cc nL own ret) (As rest : List Value) (hC : zC (zl0 x) y bytes maxL ret' fr nc ns As zDm σ (.inl (some (.int v)), zDm, σ')) (hy : zY y bytes maxL ret' n) (hs : Cond.static y ∈ zT) (hl : Cond.methodLink own index y ∈ zT) (hd : decode cc pc = .ok (.invokestatic index, 3)) (hn : As.length = n) (hF : fr + 1 ≤ F) (hA : A = A' + nc) (hB : B = B' + ns)
    (hok : (rest.all (zok 72) && ls.all (fun q => zok 72 q.2)) = true) (hW : (rest.map fun v => v.category).sum ≤ 8) (hst : st = As.reverse ++ rest) (kk : zK x F (pc + 3) ls (.int v :: rest) zDm σ' A' B') : zK x F pc ls st zDm σ A B := by
  subst hst
  rw [Bool.and_eq_true] at hok
  exact z_static (v := (some (.int v))) hG 72 As hC hy hs hl hd hn hF (Nat.le_of_eq zDm_n.symm) (Nat.le_refl _) hok.1 hok.2 hA hB hW kk
theorem zm_cvI {v : Int32} {ci i N : Nat} {C : String} {T : u_T} {fl : List (Nat × Nat)} (hG : zG x cc nL own ret) (As rest : List Value) (hc : zcls[ci]? = some (C, T, N)) (hi : zDm[i]? = some (.inl (ci, fl))) (hC : zC (zl0 x) y bytes maxL ret' fr nc ns (.ref i :: As) zDm σ (.inl (some (.int v)), zDm, σ')) (hy : zY y bytes maxL ret' n) (hs : Cond.instanceMethod y ∈ zT ∧ Cond.selects C y y ∈ zT) (hl : Cond.methodLink own index y ∈ zT) (hd : decode cc pc = .ok (.invokevirtual index, 3)) (hn : As.length = n) (hF : fr + 1 ≤ F) (hA : A = A' + nc) (hB : B = B' + ns)
    (hok : (rest.all (zok 72) && ls.all (fun q => zok 72 q.2)) = true) (hW : (rest.map fun v => v.category).sum ≤ 8) (hst : st = As.reverse ++ .ref i :: rest) (kk : zK x F (pc + 3) ls (.int v :: rest) zDm σ' A' B') : zK x F pc ls st zDm σ A B := by
  subst hst
  rw [Bool.and_eq_true] at hok
  exact z_virt (v := (some (.int v))) hG 72 As hc hi hC hy hs hl hd hn hF (Nat.le_of_eq zDm_n.symm) (Nat.le_refl _) hok.1 hok.2 hA hB hW kk
end ZCallsM
set_option maxHeartbeats 60000 in
theorem tX11_has_m {l : Launch} (hl0 : l.flags = flags0) (a0 : Int32) (a1 : Int32) (g : zS) {r : Int32} (h : nX11_has a0 a1 = some r) : zC l yX11_has cX11_has 2 ((Option.some Jvm.ClassFile.FieldType.boolean)) 0 0 0 [.int a0, .int a1] zDm g (.inl (some (.int r)), zDm, g) := by
  refine zC_of hl0 rfl (Nat.le_of_ble_eq_true rfl) (fun x hG hxl hk _ => ?_)
  subst hxl
  show zK x 0 0 [(0, .int a0), (1, .int a1)] [] zDm g 0 0
  unfold nX11_has at h
  refine z_iload_n (pc := 0) hG 0 rfl rfl dX11_has_0 ?_
  refine z_iload_n (pc := 1) hG 1 rfl rfl dX11_has_1 ?_
  refine z_ishr (pc := 2) hG dX11_has_2 ?_
  refine z_iconst (pc := 3) hG kc_1 dX11_has_3 ?_
  refine z_iand (pc := 4) hG dX11_has_4 ?_
  refine z_iconst (pc := 5) hG kc_1 dX11_has_5 ?_
  refine z_icmp_ne (pc := 6) (tgt := 13) hG dX11_has_6 rfl (fun hc => ?_) (fun hc => ?_)
  · replace h := zif_f hc h
    refine z_iconst (pc := 13) hG kc_0 dX11_has_13 ?_
    obtain rfl := Option.some.inj h
    exact z_iret (pc := 14) hG rfl rfl hk dX11_has_14
  · replace h := zif_t hc h
    refine z_iconst (pc := 9) hG kc_1 dX11_has_9 ?_
    refine z_goto (pc := 10) (tgt := 14) hG dX11_has_10 rfl ?_
    obtain rfl := Option.some.inj h
    exact z_iret (pc := 14) hG rfl rfl hk dX11_has_14
set_option maxHeartbeats 60000 in
theorem tX11_valueOf_m {l : Launch} (hl0 : l.flags = flags0) (a1 : Int32) (a2 : Int32) (g : zS) {r : Int32} (h : nX11_valueOf a1 a2 g = some r) : zC l yX11_valueOf cX11_valueOf 3 ((Option.some Jvm.ClassFile.FieldType.int)) 0 0 0 [.ref 42, .int a1, .int a2] zDm g (.inl (some (.int r)), zDm, g) := by
  refine zC_of hl0 rfl (Nat.le_of_ble_eq_true rfl) (fun x hG hxl hk _ => ?_)
  subst hxl
  show zK x 0 0 [(0, .ref 42), (1, .int a1), (2, .int a2)] [] zDm g 0 0
  unfold nX11_valueOf at h
  refine z_iload_n (pc := 0) hG 1 rfl rfl dX11_valueOf_0 ?_
  refine z_aload_n (pc := 1) hG 0 rfl rfl dX11_valueOf_1 ?_
  refine z_getr (pc := 2) hG zc_X11 inX11 DM_42 28 rfl (by decide) rfl w1479 dX11_valueOf_2 ?_
  refine z_iload_n (pc := 5) hG 2 rfl rfl dX11_valueOf_5 ?_
  replace h := zchk_some h
  obtain ⟨hc, h⟩ := h
  refine z_iald (pc := 6) hG DM_58 (zin_in hc) dX11_valueOf_6 ?_
  replace h := zchk_some h
  obtain ⟨hc, h⟩ := h
  refine z_idiv (pc := 7) hG (bne_iff_ne.mp hc) dX11_valueOf_7 ?_
  refine z_iconst (pc := 8) hG kc_5 dX11_valueOf_8 ?_
  refine z_irem (pc := 9) hG (by decide) dX11_valueOf_9 ?_
  obtain rfl := Option.some.inj h
  exact z_iret (pc := 10) hG rfl rfl hk dX11_valueOf_10
set_option maxHeartbeats 60000 in
theorem tX11_manyOf_m {l : Launch} (hl0 : l.flags = flags0) (a1 : Int32) (g : zS) {r : Int32} (h : nX11_manyOf a1 g = some r) : zC l yX11_manyOf cX11_manyOf 2 ((Option.some Jvm.ClassFile.FieldType.int)) 0 0 0 [.ref 42, .int a1] zDm g (.inl (some (.int r)), zDm, g) := by
  refine zC_of hl0 rfl (Nat.le_of_ble_eq_true rfl) (fun x hG hxl hk _ => ?_)
  subst hxl
  show zK x 0 0 [(0, .ref 42), (1, .int a1)] [] zDm g 0 0
  unfold nX11_manyOf at h
  refine z_iload_n (pc := 0) hG 1 rfl rfl dX11_manyOf_0 ?_
  refine z_aload_n (pc := 1) hG 0 rfl rfl dX11_manyOf_1 ?_
  refine z_geti (pc := 2) hG zc_X11 inX11 DM_42 16 rfl (by decide) rfl w1467 dX11_manyOf_2 ?_
  refine z_icmp_ge (pc := 5) (tgt := 17) hG dX11_manyOf_5 rfl (fun hc => ?_) (fun hc => ?_)
  · replace h := zif_t hc h
    refine z_iconst (pc := 17) hG kc_1 dX11_manyOf_17 ?_
    obtain rfl := Option.some.inj h
    exact z_iret (pc := 18) hG rfl rfl hk dX11_manyOf_18
  · replace h := zif_f hc h
    refine z_aload_n (pc := 8) hG 0 rfl rfl dX11_manyOf_8 ?_
    refine z_getr (pc := 9) hG zc_X11 inX11 DM_42 21 rfl (by decide) rfl w1472 dX11_manyOf_9 ?_
    refine z_iload_n (pc := 12) hG 1 rfl rfl dX11_manyOf_12 ?_
    replace h := zchk_some h
    obtain ⟨hc, h⟩ := h
    refine z_iald (pc := 13) hG DM_51 (zin_in hc) dX11_manyOf_13 ?_
    refine z_goto (pc := 14) (tgt := 18) hG dX11_manyOf_14 rfl ?_
    obtain rfl := Option.some.inj h
    exact z_iret (pc := 18) hG rfl rfl hk dX11_manyOf_18
def qX11_lays_7_m (x : zXx)  (o : (Int32 × zS) ⊕ zS) : Prop := match o with
  | .inl s => zK x 1 7 [(0, .ref 42), (1, .int s.1)] [] zDm s.2 0 0
  | .inr r => ztg x = (.inl none, zDm, r)
def qX11_lays_23_m (x : zXx) (a1 : Int32) (o : (Int32 × zS) ⊕ ((Int32 × zS) ⊕ zS)) : Prop := match o with
  | .inl s => zK x 1 23 [(0, .ref 42), (1, .int a1), (2, .int s.1)] [] zDm s.2 0 0
  | .inr r => qX11_lays_7_m x  r
def qX11_lays_77_m (x : zXx) (a1 : Int32) (o : (Int32 × zS) ⊕ ((Int32 × zS) ⊕ zS)) : Prop := match o with
  | .inl s => zK x 1 77 [(0, .ref 42), (1, .int a1), (2, .int s.1)] [] zDm s.2 0 0
  | .inr r => qX11_lays_7_m x  r
def qX11_lays_99_m (x : zXx) (a1 : Int32) (a2 : Int32) (g : zS) (o : (Int32 × Int32) ⊕ ((Int32 × zS) ⊕ ((Int32 × zS) ⊕ zS))) : Prop := match o with
  | .inl s => zK x 1 99 [(0, .ref 42), (1, .int a1), (2, .int a2), (3, .int s.1), (4, .int s.2)] [] zDm g 0 0
  | .inr r => qX11_lays_77_m x a1 r
set_option maxHeartbeats 60000 in
theorem kwX11_lays_99_m {x : zXx} (hG : zG x cX11_lays 5 RX11 ((Option.none : Option Jvm.ClassFile.FieldType))) (hl0 : (zl0 x).flags = flags0) (a1 : Int32) (a2 : Int32) (g : zS) {o : ((Int32 × zS) ⊕ ((Int32 × zS) ⊕ zS))} (hk : qX11_lays_77_m x a1 o) : ∀ s : (Int32 × Int32), wh (wX11_lays_99 a1 a2 g) s = some o → zK x 1 99 [(0, .ref 42), (1, .int a1), (2, .int a2), (3, .int s.1), (4, .int s.2)] [] zDm g 0 0 := by
  refine wh_ind (fun s : (Int32 × Int32) => zK x 1 99 [(0, .ref 42), (1, .int a1), (2, .int a2), (3, .int s.1), (4, .int s.2)] [] zDm g 0 0) (fun s o h hk2 => ?_)
  replace hk : qX11_lays_99_m x a1 a2 g o := by
    cases o with
    | inl s => exact hk2
    | inr r => subst hk2; exact hk
  clear hk2
  unfold wX11_lays_99 at h
  refine z_iload (pc := 99) hG 4 rfl dX11_lays_99 ?_
  refine z_aload_n (pc := 101) hG 0 rfl rfl dX11_lays_101 ?_
  refine z_geti (pc := 102) hG zc_X11 inX11 DM_42 16 rfl (by decide) rfl w1467 dX11_lays_102 ?_
  refine z_icmp_ge (pc := 105) (tgt := 148) hG dX11_lays_105 rfl (fun hc => ?_) (fun hc => ?_)
  · replace h := zif_t hc h
    replace h := zex_some h
    obtain ⟨o, h, rfl⟩ := h
    refine z_aload_n (pc := 148) hG 0 rfl rfl dX11_lays_148 ?_
    refine z_getr (pc := 149) hG zc_X11 inX11 DM_42 26 rfl (by decide) rfl w1477 dX11_lays_149 ?_
    refine z_iload_n (pc := 152) hG 1 rfl rfl dX11_lays_152 ?_
    refine z_dup2 (pc := 153) hG rfl rfl dX11_lays_153 ?_
    replace h := zchk_some h
    obtain ⟨hc, h⟩ := h
    refine z_iald (pc := 154) hG DM_56 (zin_in hc) dX11_lays_154 ?_
    refine z_iload_n (pc := 155) hG 3 rfl rfl dX11_lays_155 ?_
    refine z_if_eq (pc := 156) (tgt := 165) hG dX11_lays_156 rfl (fun hc => ?_) (fun hc => ?_)
    · replace h := zif_t hc h
      refine z_iconst (pc := 165) hG kc_0 dX11_lays_165 ?_
      refine z_ior (pc := 166) hG dX11_lays_166 ?_
      replace h := zchk_some h
      obtain ⟨hc, h⟩ := h
      refine z_iast (pc := 167) hG DM_56 (zin_in hc) dX11_lays_167 ?_
      refine z_iinc (pc := 168) (ls' := [(2, .int (a2 + (1 : Int32))), (0, .ref 42), (1, .int a1), (3, .int s.1), (4, .int s.2)]) hG 2 rfl [0, 1, 2, 3, 4] (ki_1 _) (by decide) rfl dX11_lays_168 ?_
      refine z_goto (pc := 171) (tgt := 77) hG dX11_lays_171 rfl ?_
      obtain rfl := Option.some.inj h
      refine z_sub (ls' := [(0, .ref 42), (1, .int a1), (2, .int (a2 + (1 : Int32)))]) [1, 2, 0] rfl ?_
      exact hk
    · replace h := zif_f hc h
      refine z_iconst (pc := 159) hG kc_1 dX11_lays_159 ?_
      refine z_iload_n (pc := 160) hG 2 rfl rfl dX11_lays_160 ?_
      refine z_ishl (pc := 161) hG dX11_lays_161 ?_
      refine z_goto (pc := 162) (tgt := 166) hG dX11_lays_162 rfl ?_
      refine z_ior (pc := 166) hG dX11_lays_166 ?_
      replace h := zchk_some h
      obtain ⟨hc, h⟩ := h
      refine z_iast (pc := 167) hG DM_56 (zin_in hc) dX11_lays_167 ?_
      refine z_iinc (pc := 168) (ls' := [(2, .int (a2 + (1 : Int32))), (0, .ref 42), (1, .int a1), (3, .int s.1), (4, .int s.2)]) hG 2 rfl [0, 1, 2, 3, 4] (ki_1 _) (by decide) rfl dX11_lays_168 ?_
      refine z_goto (pc := 171) (tgt := 77) hG dX11_lays_171 rfl ?_
      obtain rfl := Option.some.inj h
      refine z_sub (ls' := [(0, .ref 42), (1, .int a1), (2, .int (a2 + (1 : Int32)))]) [1, 2, 0] rfl ?_
      exact hk
  · replace h := zif_f hc h
    refine z_iload_n (pc := 108) hG 3 rfl rfl dX11_lays_108 ?_
    refine z_if_eq (pc := 109) (tgt := 140) hG dX11_lays_109 rfl (fun hc => ?_) (fun hc => ?_)
    · replace h := zif_t hc h
      refine z_iconst (pc := 140) hG kc_0 dX11_lays_140 ?_
      refine z_istore_n (pc := 141) (ls' := [(3, .int (0 : Int32)), (0, .ref 42), (1, .int a1), (2, .int a2), (4, .int s.2)]) hG [0, 1, 2, 3, 4] rfl (by decide) rfl dX11_lays_141 ?_
      refine z_iinc (pc := 142) (ls' := [(4, .int (s.2 + (1 : Int32))), (3, .int (0 : Int32)), (0, .ref 42), (1, .int a1), (2, .int a2)]) hG 4 rfl [0, 1, 2, 3, 4] (ki_1 _) (by decide) rfl dX11_lays_142 ?_
      refine z_goto (pc := 145) (tgt := 99) hG dX11_lays_145 rfl ?_
      obtain rfl := Option.some.inj h
      refine z_sub (ls' := [(0, .ref 42), (1, .int a1), (2, .int a2), (3, .int (0 : Int32)), (4, .int (s.2 + (1 : Int32)))]) [2, 3, 4, 1, 0] rfl ?_
      exact hk
    · replace h := zif_f hc h
      refine z_aload_n (pc := 112) hG 0 rfl rfl dX11_lays_112 ?_
      refine z_getr (pc := 113) hG zc_X11 inX11 DM_42 24 rfl (by decide) rfl w1475 dX11_lays_113 ?_
      refine z_iconst (pc := 116) hG kc_5 dX11_lays_116 ?_
      refine z_iload_n (pc := 117) hG 2 rfl rfl dX11_lays_117 ?_
      refine z_imul (pc := 118) hG dX11_lays_118 ?_
      refine z_iload (pc := 119) hG 4 rfl dX11_lays_119 ?_
      refine z_iadd (pc := 121) hG dX11_lays_121 ?_
      replace h := zchk_some h
      obtain ⟨hc, h⟩ := h
      refine z_iald (pc := 122) hG DM_54 (zin_in hc) dX11_lays_122 ?_
      refine z_aload_n (pc := 123) hG 0 rfl rfl dX11_lays_123 ?_
      refine z_iload_n (pc := 124) hG 1 rfl rfl dX11_lays_124 ?_
      refine z_iload (pc := 125) hG 4 rfl dX11_lays_125 ?_
      replace h := zbind h
      obtain ⟨v1, hv1, h⟩ := h
      refine zm_cvI (pc := 127) (A' := 0) (B' := 0) hG [.int a1, .int s.2] [.int (g.1 54 (((5 : Int32) * a2) + s.2).toNatClampNeg)] zc_X11 DM_42 (tX11_valueOf_m hl0 a1 s.2 g hv1) zy_X11_valueOf ⟨w1442, wp62⟩ w1440 dX11_lays_127 rfl (Nat.le_of_ble_eq_true rfl) rfl rfl rfl (Nat.le_of_ble_eq_true rfl) rfl ?_
      replace h := zbind h
      obtain ⟨v2, hv2, h⟩ := h
      refine zm_csI (pc := 130) (A' := 0) (B' := 0) hG [.int (g.1 54 (((5 : Int32) * a2) + s.2).toNatClampNeg), .int v1] [] (tX11_has_m hl0 (g.1 54 (((5 : Int32) * a2) + s.2).toNatClampNeg) v1 g hv2) zy_X11_has w1449 w1448 dX11_lays_130 rfl (Nat.le_of_ble_eq_true rfl) rfl rfl rfl (Nat.le_of_ble_eq_true rfl) rfl ?_
      refine z_if_eq (pc := 133) (tgt := 140) hG dX11_lays_133 rfl (fun hc => ?_) (fun hc => ?_)
      · replace h := zif_t hc h
        refine z_iconst (pc := 140) hG kc_0 dX11_lays_140 ?_
        refine z_istore_n (pc := 141) (ls' := [(3, .int (0 : Int32)), (0, .ref 42), (1, .int a1), (2, .int a2), (4, .int s.2)]) hG [0, 1, 2, 3, 4] rfl (by decide) rfl dX11_lays_141 ?_
        refine z_iinc (pc := 142) (ls' := [(4, .int (s.2 + (1 : Int32))), (3, .int (0 : Int32)), (0, .ref 42), (1, .int a1), (2, .int a2)]) hG 4 rfl [0, 1, 2, 3, 4] (ki_1 _) (by decide) rfl dX11_lays_142 ?_
        refine z_goto (pc := 145) (tgt := 99) hG dX11_lays_145 rfl ?_
        obtain rfl := Option.some.inj h
        refine z_sub (ls' := [(0, .ref 42), (1, .int a1), (2, .int a2), (3, .int (0 : Int32)), (4, .int (s.2 + (1 : Int32)))]) [2, 3, 4, 1, 0] rfl ?_
        exact hk
      · replace h := zif_f hc h
        refine z_iconst (pc := 136) hG kc_1 dX11_lays_136 ?_
        refine z_goto (pc := 137) (tgt := 141) hG dX11_lays_137 rfl ?_
        refine z_istore_n (pc := 141) (ls' := [(3, .int (1 : Int32)), (0, .ref 42), (1, .int a1), (2, .int a2), (4, .int s.2)]) hG [0, 1, 2, 3, 4] rfl (by decide) rfl dX11_lays_141 ?_
        refine z_iinc (pc := 142) (ls' := [(4, .int (s.2 + (1 : Int32))), (3, .int (1 : Int32)), (0, .ref 42), (1, .int a1), (2, .int a2)]) hG 4 rfl [0, 1, 2, 3, 4] (ki_1 _) (by decide) rfl dX11_lays_142 ?_
        refine z_goto (pc := 145) (tgt := 99) hG dX11_lays_145 rfl ?_
        obtain rfl := Option.some.inj h
        refine z_sub (ls' := [(0, .ref 42), (1, .int a1), (2, .int a2), (3, .int (1 : Int32)), (4, .int (s.2 + (1 : Int32)))]) [2, 3, 4, 1, 0] rfl ?_
        exact hk
set_option maxHeartbeats 60000 in
theorem kwX11_lays_77_m {x : zXx} (hG : zG x cX11_lays 5 RX11 ((Option.none : Option Jvm.ClassFile.FieldType))) (hl0 : (zl0 x).flags = flags0) (a1 : Int32) {o : ((Int32 × zS) ⊕ zS)} (hk : qX11_lays_7_m x  o) : ∀ s : (Int32 × zS), wh (wX11_lays_77 a1) s = some o → zK x 1 77 [(0, .ref 42), (1, .int a1), (2, .int s.1)] [] zDm s.2 0 0 := by
  refine wh_ind (fun s : (Int32 × zS) => zK x 1 77 [(0, .ref 42), (1, .int a1), (2, .int s.1)] [] zDm s.2 0 0) (fun s o h hk2 => ?_)
  replace hk : qX11_lays_77_m x a1 o := by
    cases o with
    | inl s => exact hk2
    | inr r => subst hk2; exact hk
  clear hk2
  unfold wX11_lays_77 at h
  refine z_iload_n (pc := 77) hG 2 rfl rfl dX11_lays_77 ?_
  refine z_aload_n (pc := 78) hG 0 rfl rfl dX11_lays_78 ?_
  refine z_geti (pc := 79) hG zc_X11 inX11 DM_42 17 rfl (by decide) rfl w1468 dX11_lays_79 ?_
  refine z_icmp_ge (pc := 82) (tgt := 174) hG dX11_lays_82 rfl (fun hc => ?_) (fun hc => ?_)
  · replace h := zif_t hc h
    replace h := zex_some h
    obtain ⟨o, h, rfl⟩ := h
    refine z_iinc (pc := 174) (ls' := [(1, .int (a1 + (1 : Int32))), (0, .ref 42), (2, .int s.1)]) hG 1 rfl [0, 1, 2] (ki_1 _) (by decide) rfl dX11_lays_174 ?_
    refine z_goto (pc := 177) (tgt := 7) hG dX11_lays_177 rfl ?_
    obtain rfl := Option.some.inj h
    refine z_sub (ls' := [(0, .ref 42), (1, .int (a1 + (1 : Int32)))]) [1, 0] rfl ?_
    exact hk
  · replace h := zif_f hc h
    refine z_aload_n (pc := 85) hG 0 rfl rfl dX11_lays_85 ?_
    refine z_getr (pc := 86) hG zc_X11 inX11 DM_42 27 rfl (by decide) rfl w1478 dX11_lays_86 ?_
    refine z_iload_n (pc := 89) hG 1 rfl rfl dX11_lays_89 ?_
    replace h := zchk_some h
    obtain ⟨hc, h⟩ := h
    refine z_zald (pc := 90) hG DM_57 (zin_in hc) dX11_lays_90 ?_
    refine z_if_eq (pc := 91) (tgt := 174) hG dX11_lays_91 rfl (fun hc => ?_) (fun hc => ?_)
    · replace h := zif_t hc h
      replace h := zex_some h
      obtain ⟨o, h, rfl⟩ := h
      refine z_iinc (pc := 174) (ls' := [(1, .int (a1 + (1 : Int32))), (0, .ref 42), (2, .int s.1)]) hG 1 rfl [0, 1, 2] (ki_1 _) (by decide) rfl dX11_lays_174 ?_
      refine z_goto (pc := 177) (tgt := 7) hG dX11_lays_177 rfl ?_
      obtain rfl := Option.some.inj h
      refine z_sub (ls' := [(0, .ref 42), (1, .int (a1 + (1 : Int32)))]) [1, 0] rfl ?_
      exact hk
    · replace h := zif_f hc h
      refine z_iconst (pc := 94) hG kc_1 dX11_lays_94 ?_
      refine z_istore_n (pc := 95) (ls' := [(3, .int (1 : Int32)), (0, .ref 42), (1, .int a1), (2, .int s.1)]) hG [0, 1, 2, 3] rfl (by decide) rfl dX11_lays_95 ?_
      refine z_iconst (pc := 96) hG kc_0 dX11_lays_96 ?_
      refine z_istore (pc := 97) (ls' := [(4, .int (0 : Int32)), (3, .int (1 : Int32)), (0, .ref 42), (1, .int a1), (2, .int s.1)]) hG [0, 1, 2, 3, 4] (by decide) rfl dX11_lays_97 ?_
      refine z_sub (ls' := [(0, .ref 42), (1, .int a1), (2, .int s.1), (3, .int (1 : Int32)), (4, .int (0 : Int32))]) [2, 3, 4, 1, 0] rfl ?_
      exact kwX11_lays_99_m hG hl0 a1 s.1 s.2 hk ((1 : Int32), (0 : Int32)) h
set_option maxHeartbeats 60000 in
theorem kwX11_lays_23_m {x : zXx} (hG : zG x cX11_lays 5 RX11 ((Option.none : Option Jvm.ClassFile.FieldType))) (hl0 : (zl0 x).flags = flags0) (a1 : Int32) {o : ((Int32 × zS) ⊕ zS)} (hk : qX11_lays_7_m x  o) : ∀ s : (Int32 × zS), wh (wX11_lays_23 a1) s = some o → zK x 1 23 [(0, .ref 42), (1, .int a1), (2, .int s.1)] [] zDm s.2 0 0 := by
  refine wh_ind (fun s : (Int32 × zS) => zK x 1 23 [(0, .ref 42), (1, .int a1), (2, .int s.1)] [] zDm s.2 0 0) (fun s o h hk2 => ?_)
  replace hk : qX11_lays_23_m x a1 o := by
    cases o with
    | inl s => exact hk2
    | inr r => subst hk2; exact hk
  clear hk2
  unfold wX11_lays_23 at h
  refine z_iload_n (pc := 23) hG 2 rfl rfl dX11_lays_23 ?_
  refine z_iconst (pc := 24) hG kc_5 dX11_lays_24 ?_
  refine z_icmp_ge (pc := 25) (tgt := 68) hG dX11_lays_25 rfl (fun hc => ?_) (fun hc => ?_)
  · replace h := zif_t hc h
    replace h := zex_some h
    obtain ⟨o, h, rfl⟩ := h
    refine z_aload_n (pc := 68) hG 0 rfl rfl dX11_lays_68 ?_
    refine z_getr (pc := 69) hG zc_X11 inX11 DM_42 26 rfl (by decide) rfl w1477 dX11_lays_69 ?_
    refine z_iload_n (pc := 72) hG 1 rfl rfl dX11_lays_72 ?_
    refine z_iconst (pc := 73) hG kc_0 dX11_lays_73 ?_
    replace h := zchk_some h
    obtain ⟨hc, h⟩ := h
    refine z_iast (pc := 74) hG DM_56 (zin_in hc) dX11_lays_74 ?_
    refine z_iconst (pc := 75) hG kc_0 dX11_lays_75 ?_
    refine z_istore_n (pc := 76) (ls' := [(2, .int (0 : Int32)), (0, .ref 42), (1, .int a1)]) hG [0, 1, 2] rfl (by decide) rfl dX11_lays_76 ?_
    refine z_sub (ls' := [(0, .ref 42), (1, .int a1), (2, .int (0 : Int32))]) [1, 2, 0] rfl ?_
    exact kwX11_lays_77_m hG hl0 a1 hk ((0 : Int32), (zi s.2 56 a1.toNatClampNeg (0 : Int32))) h
  · replace h := zif_f hc h
    refine z_aload_n (pc := 28) hG 0 rfl rfl dX11_lays_28 ?_
    refine z_getr (pc := 29) hG zc_X11 inX11 DM_42 27 rfl (by decide) rfl w1478 dX11_lays_29 ?_
    refine z_iload_n (pc := 32) hG 1 rfl rfl dX11_lays_32 ?_
    refine z_aload_n (pc := 33) hG 0 rfl rfl dX11_lays_33 ?_
    refine z_getr (pc := 34) hG zc_X11 inX11 DM_42 27 rfl (by decide) rfl w1478 dX11_lays_34 ?_
    refine z_iload_n (pc := 37) hG 1 rfl rfl dX11_lays_37 ?_
    replace h := zchk_some h
    obtain ⟨hc, h⟩ := h
    refine z_zald (pc := 38) hG DM_57 (zin_in hc) dX11_lays_38 ?_
    refine z_if_eq (pc := 39) (tgt := 60) hG dX11_lays_39 rfl (fun hc => ?_) (fun hc => ?_)
    · replace h := zif_t hc h
      refine z_iconst (pc := 60) hG kc_0 dX11_lays_60 ?_
      replace h := zchk_some h
      obtain ⟨hc, h⟩ := h
      refine z_zast (pc := 61) hG DM_57 (zin_in hc) dX11_lays_61 ?_
      refine z_iinc (pc := 62) (ls' := [(2, .int (s.1 + (1 : Int32))), (0, .ref 42), (1, .int a1)]) hG 2 rfl [0, 1, 2] (ki_1 _) (by decide) rfl dX11_lays_62 ?_
      refine z_goto (pc := 65) (tgt := 23) hG dX11_lays_65 rfl ?_
      obtain rfl := Option.some.inj h
      refine z_sub (ls' := [(0, .ref 42), (1, .int a1), (2, .int (s.1 + (1 : Int32)))]) [1, 2, 0] rfl ?_
      exact hk
    · replace h := zif_f hc h
      refine z_aload_n (pc := 42) hG 0 rfl rfl dX11_lays_42 ?_
      refine z_iload_n (pc := 43) hG 1 rfl rfl dX11_lays_43 ?_
      refine z_iload_n (pc := 44) hG 2 rfl rfl dX11_lays_44 ?_
      replace h := zbind h
      obtain ⟨v3, hv3, h⟩ := h
      refine zm_cvI (pc := 45) (A' := 0) (B' := 0) hG [.int a1, .int s.1] [.int a1, .ref 57] zc_X11 DM_42 (tX11_valueOf_m hl0 a1 s.1 s.2 hv3) zy_X11_valueOf ⟨w1442, wp62⟩ w1440 dX11_lays_45 rfl (Nat.le_of_ble_eq_true rfl) rfl rfl rfl (Nat.le_of_ble_eq_true rfl) rfl ?_
      refine z_aload_n (pc := 48) hG 0 rfl rfl dX11_lays_48 ?_
      refine z_iload_n (pc := 49) hG 2 rfl rfl dX11_lays_49 ?_
      replace h := zbind h
      obtain ⟨v4, hv4, h⟩ := h
      refine zm_cvI (pc := 50) (A' := 0) (B' := 0) hG [.int s.1] [.int v3, .int a1, .ref 57] zc_X11 DM_42 (tX11_manyOf_m hl0 s.1 s.2 hv4) zy_X11_manyOf ⟨w1446, wp63⟩ w1444 dX11_lays_50 rfl (Nat.le_of_ble_eq_true rfl) rfl rfl rfl (Nat.le_of_ble_eq_true rfl) rfl ?_
      refine z_icmp_ge (pc := 53) (tgt := 60) hG dX11_lays_53 rfl (fun hc => ?_) (fun hc => ?_)
      · replace h := zif_t hc h
        refine z_iconst (pc := 60) hG kc_0 dX11_lays_60 ?_
        replace h := zchk_some h
        obtain ⟨hc, h⟩ := h
        refine z_zast (pc := 61) hG DM_57 (zin_in hc) dX11_lays_61 ?_
        refine z_iinc (pc := 62) (ls' := [(2, .int (s.1 + (1 : Int32))), (0, .ref 42), (1, .int a1)]) hG 2 rfl [0, 1, 2] (ki_1 _) (by decide) rfl dX11_lays_62 ?_
        refine z_goto (pc := 65) (tgt := 23) hG dX11_lays_65 rfl ?_
        obtain rfl := Option.some.inj h
        refine z_sub (ls' := [(0, .ref 42), (1, .int a1), (2, .int (s.1 + (1 : Int32)))]) [1, 2, 0] rfl ?_
        exact hk
      · replace h := zif_f hc h
        refine z_iconst (pc := 56) hG kc_1 dX11_lays_56 ?_
        refine z_goto (pc := 57) (tgt := 61) hG dX11_lays_57 rfl ?_
        replace h := zchk_some h
        obtain ⟨hc, h⟩ := h
        refine z_zast (pc := 61) hG DM_57 (zin_in hc) dX11_lays_61 ?_
        refine z_iinc (pc := 62) (ls' := [(2, .int (s.1 + (1 : Int32))), (0, .ref 42), (1, .int a1)]) hG 2 rfl [0, 1, 2] (ki_1 _) (by decide) rfl dX11_lays_62 ?_
        refine z_goto (pc := 65) (tgt := 23) hG dX11_lays_65 rfl ?_
        obtain rfl := Option.some.inj h
        refine z_sub (ls' := [(0, .ref 42), (1, .int a1), (2, .int (s.1 + (1 : Int32)))]) [1, 2, 0] rfl ?_
        exact hk
set_option maxHeartbeats 60000 in
theorem kwX11_lays_7_m {x : zXx} (hG : zG x cX11_lays 5 RX11 ((Option.none : Option Jvm.ClassFile.FieldType))) (hl0 : (zl0 x).flags = flags0)  {o : zS} (hk : ztg x = (.inl none, zDm, o)) : ∀ s : (Int32 × zS), wh (wX11_lays_7 ) s = some o → zK x 1 7 [(0, .ref 42), (1, .int s.1)] [] zDm s.2 0 0 := by
  refine wh_ind (fun s : (Int32 × zS) => zK x 1 7 [(0, .ref 42), (1, .int s.1)] [] zDm s.2 0 0) (fun s o h hk2 => ?_)
  replace hk : qX11_lays_7_m x  o := by
    cases o with
    | inl s => exact hk2
    | inr r => subst hk2; exact hk
  clear hk2
  unfold wX11_lays_7 at h
  refine z_iload_n (pc := 7) hG 1 rfl rfl dX11_lays_7 ?_
  refine z_sipush (pc := 8) hG ks_3125 dX11_lays_8 ?_
  refine z_icmp_ge (pc := 11) (tgt := 180) hG dX11_lays_11 rfl (fun hc => ?_) (fun hc => ?_)
  · replace h := zif_t hc h
    replace h := zex_some h
    obtain ⟨o, h, rfl⟩ := h
    obtain rfl := Option.some.inj h
    exact z_vret (pc := 180) hG rfl hk dX11_lays_180
  · replace h := zif_f hc h
    refine z_aload_n (pc := 14) hG 0 rfl rfl dX11_lays_14 ?_
    refine z_getr (pc := 15) hG zc_X11 inX11 DM_42 27 rfl (by decide) rfl w1478 dX11_lays_15 ?_
    refine z_iload_n (pc := 18) hG 1 rfl rfl dX11_lays_18 ?_
    refine z_iconst (pc := 19) hG kc_1 dX11_lays_19 ?_
    replace h := zchk_some h
    obtain ⟨hc, h⟩ := h
    refine z_zast (pc := 20) hG DM_57 (zin_in hc) dX11_lays_20 ?_
    refine z_iconst (pc := 21) hG kc_0 dX11_lays_21 ?_
    refine z_istore_n (pc := 22) (ls' := [(2, .int (0 : Int32)), (0, .ref 42), (1, .int s.1)]) hG [0, 1, 2] rfl (by decide) rfl dX11_lays_22 ?_
    refine z_sub (ls' := [(0, .ref 42), (1, .int s.1), (2, .int (0 : Int32))]) [1, 2, 0] rfl ?_
    exact kwX11_lays_23_m hG hl0 s.1 hk ((0 : Int32), (zi s.2 57 s.1.toNatClampNeg (vp_nar .boolean (1 : Int32)))) h
set_option maxHeartbeats 60000 in
theorem tX11_lays_m {l : Launch} (hl0 : l.flags = flags0) (g : zS) {r : zS} (h : nX11_lays g = some r) : zC l yX11_lays cX11_lays 5 ((Option.none : Option Jvm.ClassFile.FieldType)) 1 0 0 [.ref 42] zDm g (.inl none, zDm, r) := by
  refine zC_of hl0 rfl (Nat.le_of_ble_eq_true rfl) (fun x hG hxl hk _ => ?_)
  subst hxl
  show zK x 1 0 [(0, .ref 42)] [] zDm g 0 0
  unfold nX11_lays at h
  refine z_aload_n (pc := 0) hG 0 rfl rfl dX11_lays_0 ?_
  refine z_iconst (pc := 1) hG kc_m1 dX11_lays_1 ?_
  refine z_puti (pc := 2) hG zc_X11 inX11 tyX11 tyX11_ok nmX11 DM_42 29 rfl (by decide) rfl w1480 rfl rfl rfl dX11_lays_2 ?_
  refine z_iconst (pc := 5) hG kc_0 dX11_lays_5 ?_
  refine z_istore_n (pc := 6) (ls' := [(1, .int (0 : Int32)), (0, .ref 42)]) hG [0, 1] rfl (by decide) rfl dX11_lays_6 ?_
  refine z_sub (ls' := [(0, .ref 42), (1, .int (0 : Int32))]) [1, 0] rfl ?_
  exact kwX11_lays_7_m hG hl0  hk ((0 : Int32), (zi g 42 29 (-1 : Int32))) h
def zS0 : zS := (fun _ _ => 0, fun _ _ => 0, 0, 64)
def zE_0 : List zDs := []
theorem w_oin : Cond.code Lib.objectInit ⟨#[0xb1]⟩ 1 none ∈ zT := zT_k1 35 rfl rfl
def zE_1 : List zDs := zE_0 ++ [.inl (8, [(3, 0), (3, 0), (3, 0), (3, 0), (3, 0), (3, 0), (3, 0), (3, 0), (3, 0), (3, 0), (3, 0), (0, 0), (0, 0)])]
def zE_2 : List zDs := zE_1 ++ [.inl (7, [(3, 0), (0, 0)])]
def zE_3 : List zDs := zE_2 ++ [.inr (1, 400)]
def zE_4 : List zDs := zE_3.set 1 (.inl (7, [(1, 2), (0, 0)]))
set_option maxHeartbeats 400000 in
set_option maxRecDepth 100000 in
theorem ti_X9_init_1 {l : Launch} (hl0 : l.flags = flags0) : zC l yX9_init cX9_init 1 none 0 1 400 [.ref 1] zE_2 zS0 (.inl none, zE_4, zS0) := by
  refine zC_of hl0 rfl (Nat.le_of_ble_eq_true rfl) (fun x hG hxl hk hnam => ?_)
  subst hxl
  show zK x 0 0 [(0, .ref 1)] [] zE_2 zS0 1 400
  refine z_aload_n (pc := 0) hG 0 rfl rfl dX9_init_0 ?_
  refine z_objinit (pc := 1) hG w41 w34 w_oin (Nat.le_of_ble_eq_true rfl) dX9_init_1 ?_
  refine z_aload_n (pc := 4) hG 0 rfl rfl dX9_init_4 ?_
  refine z_sipush (pc := 5) hG ks_400 dX9_init_5 ?_
  refine z_newa (A' := 0) (B' := 0) (atype := .byte) (t := 1) (N := 400) (z := (400, .inl (fun _ => 0))) (pc := 8) hG wa_byte rfl (fun _ => rfl) rfl (fun _ _ => Iff.rfl) (i := 2) (by decide +kernel) (by decide) (by decide +kernel) (fun _ _ => rfl) (fun _ => rfl) (by decide) rfl (Nat.le_of_ble_eq_true rfl) rfl rfl (dl' := zE_3) rfl rfl rfl dX9_init_8 ?_
  refine z_putrF (pc := 10) hG hnam zc_X9 inX9 tyX9 tyX9_ok nmX9 (i := 1) (fl := [(3, 0), (0, 0)]) (q := (1, 2)) (by decide +kernel) 0 (by decide) (by decide) rfl (fun _ => rfl) w42 rfl rfl (fun _ => rfl) (fun _ => rfl) (dl' := zE_4) rfl dX9_init_10 ?_
  exact z_vret (pc := 13) hG rfl hk dX9_init_13
def zE_5 : List zDs := zE_4.set 0 (.inl (8, [(1, 1), (3, 0), (3, 0), (3, 0), (3, 0), (3, 0), (3, 0), (3, 0), (3, 0), (3, 0), (3, 0), (0, 0), (0, 0)]))
def zE_6 : List zDs := zE_5 ++ [.inl (4, [(0, 0), (3, 0), (3, 0), (3, 0), (3, 0), (3, 0), (0, 0), (0, 0), (3, 0), (0, 0), (3, 0)])]
def zE_7 : List zDs := zE_6 ++ [.inr (0, 5)]
def zE_8 : List zDs := zE_7.set 3 (.inl (4, [(0, 0), (1, 4), (3, 0), (3, 0), (3, 0), (3, 0), (0, 0), (0, 0), (3, 0), (0, 0), (3, 0)]))
def zE_9 : List zDs := zE_8 ++ [.inr (0, 5)]
def zE_10 : List zDs := zE_9.set 3 (.inl (4, [(0, 0), (1, 4), (1, 5), (3, 0), (3, 0), (3, 0), (0, 0), (0, 0), (3, 0), (0, 0), (3, 0)]))
def zE_11 : List zDs := zE_10 ++ [.inr (0, 5)]
def zE_12 : List zDs := zE_11.set 3 (.inl (4, [(0, 0), (1, 4), (1, 5), (1, 6), (3, 0), (3, 0), (0, 0), (0, 0), (3, 0), (0, 0), (3, 0)]))
def zE_13 : List zDs := zE_12 ++ [.inr (1, 30)]
def zE_14 : List zDs := zE_13.set 3 (.inl (4, [(0, 0), (1, 4), (1, 5), (1, 6), (1, 7), (3, 0), (0, 0), (0, 0), (3, 0), (0, 0), (3, 0)]))
def zE_15 : List zDs := zE_14 ++ [.inr (0, 5)]
def zE_16 : List zDs := zE_15.set 3 (.inl (4, [(0, 0), (1, 4), (1, 5), (1, 6), (1, 7), (1, 8), (0, 0), (0, 0), (3, 0), (0, 0), (3, 0)]))
def zE_17 : List zDs := zE_16 ++ [.inr (0, 30)]
def zE_18 : List zDs := zE_17.set 3 (.inl (4, [(0, 0), (1, 4), (1, 5), (1, 6), (1, 7), (1, 8), (0, 0), (0, 0), (1, 9), (0, 0), (3, 0)]))
def zE_19 : List zDs := zE_18 ++ [.inr (0, 40)]
def zE_20 : List zDs := zE_19.set 3 (.inl (4, [(0, 0), (1, 4), (1, 5), (1, 6), (1, 7), (1, 8), (0, 0), (0, 0), (1, 9), (0, 0), (1, 10)]))
set_option maxHeartbeats 400000 in
set_option maxRecDepth 100000 in
theorem ti_X6_init_3 {l : Launch} (hl0 : l.flags = flags0) : zC l yX6_init cX6_init 1 none 0 7 120 [.ref 3] zE_6 zS0 (.inl none, zE_20, (zi zS0 3 6 (-1 : Int32))) := by
  refine zC_of hl0 rfl (Nat.le_of_ble_eq_true rfl) (fun x hG hxl hk hnam => ?_)
  subst hxl
  show zK x 0 0 [(0, .ref 3)] [] zE_6 zS0 7 120
  refine z_aload_n (pc := 0) hG 0 rfl rfl dX6_init_0 ?_
  refine z_objinit (pc := 1) hG w57 w34 w_oin (Nat.le_of_ble_eq_true rfl) dX6_init_1 ?_
  refine z_aload_n (pc := 4) hG 0 rfl rfl dX6_init_4 ?_
  refine z_iconst (pc := 5) hG kc_5 dX6_init_5 ?_
  refine z_newa (A' := 6) (B' := 115) (atype := .int) (t := 0) (N := 5) (z := (5, .inl (fun _ => 0))) (pc := 6) hG wa_int rfl (fun _ => rfl) rfl (fun _ _ => Iff.rfl) (i := 4) (by decide +kernel) (by decide) (by decide +kernel) (fun _ _ => rfl) (fun _ => rfl) (by decide) rfl (Nat.le_of_ble_eq_true rfl) rfl rfl (dl' := zE_7) rfl rfl rfl dX6_init_6 ?_
  refine z_putrF (pc := 8) hG hnam zc_X6 inX6 tyX6 tyX6_ok nmX6 (i := 3) (fl := [(0, 0), (3, 0), (3, 0), (3, 0), (3, 0), (3, 0), (0, 0), (0, 0), (3, 0), (0, 0), (3, 0)]) (q := (1, 4)) (by decide +kernel) 1 (by decide) (by decide) rfl (fun _ => rfl) w64 rfl rfl (fun _ => rfl) (fun _ => rfl) (dl' := zE_8) rfl dX6_init_8 ?_
  refine z_aload_n (pc := 11) hG 0 rfl rfl dX6_init_11 ?_
  refine z_iconst (pc := 12) hG kc_5 dX6_init_12 ?_
  refine z_newa (A' := 5) (B' := 110) (atype := .int) (t := 0) (N := 5) (z := (5, .inl (fun _ => 0))) (pc := 13) hG wa_int rfl (fun _ => rfl) rfl (fun _ _ => Iff.rfl) (i := 5) (by decide +kernel) (by decide) (by decide +kernel) (fun _ _ => rfl) (fun _ => rfl) (by decide) rfl (Nat.le_of_ble_eq_true rfl) rfl rfl (dl' := zE_9) rfl rfl rfl dX6_init_13 ?_
  refine z_putrF (pc := 15) hG hnam zc_X6 inX6 tyX6 tyX6_ok nmX6 (i := 3) (fl := [(0, 0), (1, 4), (3, 0), (3, 0), (3, 0), (3, 0), (0, 0), (0, 0), (3, 0), (0, 0), (3, 0)]) (q := (1, 5)) (by decide +kernel) 2 (by decide) (by decide) rfl (fun _ => rfl) w70 rfl rfl (fun _ => rfl) (fun _ => rfl) (dl' := zE_10) rfl dX6_init_15 ?_
  refine z_aload_n (pc := 18) hG 0 rfl rfl dX6_init_18 ?_
  refine z_iconst (pc := 19) hG kc_5 dX6_init_19 ?_
  refine z_newa (A' := 4) (B' := 105) (atype := .int) (t := 0) (N := 5) (z := (5, .inl (fun _ => 0))) (pc := 20) hG wa_int rfl (fun _ => rfl) rfl (fun _ _ => Iff.rfl) (i := 6) (by decide +kernel) (by decide) (by decide +kernel) (fun _ _ => rfl) (fun _ => rfl) (by decide) rfl (Nat.le_of_ble_eq_true rfl) rfl rfl (dl' := zE_11) rfl rfl rfl dX6_init_20 ?_
  refine z_putrF (pc := 22) hG hnam zc_X6 inX6 tyX6 tyX6_ok nmX6 (i := 3) (fl := [(0, 0), (1, 4), (1, 5), (3, 0), (3, 0), (3, 0), (0, 0), (0, 0), (3, 0), (0, 0), (3, 0)]) (q := (1, 6)) (by decide +kernel) 3 (by decide) (by decide) rfl (fun _ => rfl) w74 rfl rfl (fun _ => rfl) (fun _ => rfl) (dl' := zE_12) rfl dX6_init_22 ?_
  refine z_aload_n (pc := 25) hG 0 rfl rfl dX6_init_25 ?_
  refine z_bipush (pc := 26) hG kb_30 dX6_init_26 ?_
  refine z_newa (A' := 3) (B' := 75) (atype := .byte) (t := 1) (N := 30) (z := (30, .inl (fun _ => 0))) (pc := 28) hG wa_byte rfl (fun _ => rfl) rfl (fun _ _ => Iff.rfl) (i := 7) (by decide +kernel) (by decide) (by decide +kernel) (fun _ _ => rfl) (fun _ => rfl) (by decide) rfl (Nat.le_of_ble_eq_true rfl) rfl rfl (dl' := zE_13) rfl rfl rfl dX6_init_28 ?_
  refine z_putrF (pc := 30) hG hnam zc_X6 inX6 tyX6 tyX6_ok nmX6 (i := 3) (fl := [(0, 0), (1, 4), (1, 5), (1, 6), (3, 0), (3, 0), (0, 0), (0, 0), (3, 0), (0, 0), (3, 0)]) (q := (1, 7)) (by decide +kernel) 4 (by decide) (by decide) rfl (fun _ => rfl) w77 rfl rfl (fun _ => rfl) (fun _ => rfl) (dl' := zE_14) rfl dX6_init_30 ?_
  refine z_aload_n (pc := 33) hG 0 rfl rfl dX6_init_33 ?_
  refine z_iconst (pc := 34) hG kc_5 dX6_init_34 ?_
  refine z_newa (A' := 2) (B' := 70) (atype := .int) (t := 0) (N := 5) (z := (5, .inl (fun _ => 0))) (pc := 35) hG wa_int rfl (fun _ => rfl) rfl (fun _ _ => Iff.rfl) (i := 8) (by decide +kernel) (by decide) (by decide +kernel) (fun _ _ => rfl) (fun _ => rfl) (by decide) rfl (Nat.le_of_ble_eq_true rfl) rfl rfl (dl' := zE_15) rfl rfl rfl dX6_init_35 ?_
  refine z_putrF (pc := 37) hG hnam zc_X6 inX6 tyX6 tyX6_ok nmX6 (i := 3) (fl := [(0, 0), (1, 4), (1, 5), (1, 6), (1, 7), (3, 0), (0, 0), (0, 0), (3, 0), (0, 0), (3, 0)]) (q := (1, 8)) (by decide +kernel) 5 (by decide) (by decide) rfl (fun _ => rfl) w79 rfl rfl (fun _ => rfl) (fun _ => rfl) (dl' := zE_16) rfl dX6_init_37 ?_
  refine z_aload_n (pc := 40) hG 0 rfl rfl dX6_init_40 ?_
  refine z_iconst (pc := 41) hG kc_m1 dX6_init_41 ?_
  refine z_puti (pc := 42) hG zc_X6 inX6 tyX6 tyX6_ok nmX6 (i := 3) (fl := [(0, 0), (1, 4), (1, 5), (1, 6), (1, 7), (1, 8), (0, 0), (0, 0), (3, 0), (0, 0), (3, 0)]) (by decide +kernel) 6 rfl (by decide) rfl w81 rfl rfl rfl dX6_init_42 ?_
  refine z_aload_n (pc := 45) hG 0 rfl rfl dX6_init_45 ?_
  refine z_bipush (pc := 46) hG kb_30 dX6_init_46 ?_
  refine z_newa (A' := 1) (B' := 40) (atype := .int) (t := 0) (N := 30) (z := (30, .inl (fun _ => 0))) (pc := 48) hG wa_int rfl (fun _ => rfl) rfl (fun _ _ => Iff.rfl) (i := 9) (by decide +kernel) (by decide) (by decide +kernel) (fun _ _ => rfl) (fun _ => rfl) (by decide) rfl (Nat.le_of_ble_eq_true rfl) rfl rfl (dl' := zE_17) rfl rfl rfl dX6_init_48 ?_
  refine z_putrF (pc := 50) hG hnam zc_X6 inX6 tyX6 tyX6_ok nmX6 (i := 3) (fl := [(0, 0), (1, 4), (1, 5), (1, 6), (1, 7), (1, 8), (0, 0), (0, 0), (3, 0), (0, 0), (3, 0)]) (q := (1, 9)) (by decide +kernel) 8 (by decide) (by decide) rfl (fun _ => rfl) w90 rfl rfl (fun _ => rfl) (fun _ => rfl) (dl' := zE_18) rfl dX6_init_50 ?_
  refine z_aload_n (pc := 53) hG 0 rfl rfl dX6_init_53 ?_
  refine z_bipush (pc := 54) hG kb_40 dX6_init_54 ?_
  refine z_newa (A' := 0) (B' := 0) (atype := .int) (t := 0) (N := 40) (z := (40, .inl (fun _ => 0))) (pc := 56) hG wa_int rfl (fun _ => rfl) rfl (fun _ _ => Iff.rfl) (i := 10) (by decide +kernel) (by decide) (by decide +kernel) (fun _ _ => rfl) (fun _ => rfl) (by decide) rfl (Nat.le_of_ble_eq_true rfl) rfl rfl (dl' := zE_19) rfl rfl rfl dX6_init_56 ?_
  refine z_putrF (pc := 58) hG hnam zc_X6 inX6 tyX6 tyX6_ok nmX6 (i := 3) (fl := [(0, 0), (1, 4), (1, 5), (1, 6), (1, 7), (1, 8), (0, 0), (0, 0), (1, 9), (0, 0), (3, 0)]) (q := (1, 10)) (by decide +kernel) 10 (by decide) (by decide) rfl (fun _ => rfl) w95 rfl rfl (fun _ => rfl) (fun _ => rfl) (dl' := zE_20) rfl dX6_init_58 ?_
  exact z_vret (pc := 61) hG rfl hk dX6_init_61
def zE_21 : List zDs := zE_20.set 0 (.inl (8, [(1, 1), (1, 3), (3, 0), (3, 0), (3, 0), (3, 0), (3, 0), (3, 0), (3, 0), (3, 0), (3, 0), (0, 0), (0, 0)]))
def zE_22 : List zDs := zE_21 ++ [.inl (4, [(0, 0), (3, 0), (3, 0), (3, 0), (3, 0), (3, 0), (0, 0), (0, 0), (3, 0), (0, 0), (3, 0)])]
def zE_23 : List zDs := zE_22 ++ [.inr (0, 5)]
def zE_24 : List zDs := zE_23.set 11 (.inl (4, [(0, 0), (1, 12), (3, 0), (3, 0), (3, 0), (3, 0), (0, 0), (0, 0), (3, 0), (0, 0), (3, 0)]))
def zE_25 : List zDs := zE_24 ++ [.inr (0, 5)]
def zE_26 : List zDs := zE_25.set 11 (.inl (4, [(0, 0), (1, 12), (1, 13), (3, 0), (3, 0), (3, 0), (0, 0), (0, 0), (3, 0), (0, 0), (3, 0)]))
def zE_27 : List zDs := zE_26 ++ [.inr (0, 5)]
def zE_28 : List zDs := zE_27.set 11 (.inl (4, [(0, 0), (1, 12), (1, 13), (1, 14), (3, 0), (3, 0), (0, 0), (0, 0), (3, 0), (0, 0), (3, 0)]))
def zE_29 : List zDs := zE_28 ++ [.inr (1, 30)]
def zE_30 : List zDs := zE_29.set 11 (.inl (4, [(0, 0), (1, 12), (1, 13), (1, 14), (1, 15), (3, 0), (0, 0), (0, 0), (3, 0), (0, 0), (3, 0)]))
def zE_31 : List zDs := zE_30 ++ [.inr (0, 5)]
def zE_32 : List zDs := zE_31.set 11 (.inl (4, [(0, 0), (1, 12), (1, 13), (1, 14), (1, 15), (1, 16), (0, 0), (0, 0), (3, 0), (0, 0), (3, 0)]))
def zE_33 : List zDs := zE_32 ++ [.inr (0, 30)]
def zE_34 : List zDs := zE_33.set 11 (.inl (4, [(0, 0), (1, 12), (1, 13), (1, 14), (1, 15), (1, 16), (0, 0), (0, 0), (1, 17), (0, 0), (3, 0)]))
def zE_35 : List zDs := zE_34 ++ [.inr (0, 40)]
def zE_36 : List zDs := zE_35.set 11 (.inl (4, [(0, 0), (1, 12), (1, 13), (1, 14), (1, 15), (1, 16), (0, 0), (0, 0), (1, 17), (0, 0), (1, 18)]))
set_option maxHeartbeats 400000 in
set_option maxRecDepth 100000 in
theorem ti_X6_init_11 {l : Launch} (hl0 : l.flags = flags0) : zC l yX6_init cX6_init 1 none 0 7 120 [.ref 11] zE_22 (zi zS0 3 6 (-1 : Int32)) (.inl none, zE_36, (zi (zi zS0 3 6 (-1 : Int32)) 11 6 (-1 : Int32))) := by
  refine zC_of hl0 rfl (Nat.le_of_ble_eq_true rfl) (fun x hG hxl hk hnam => ?_)
  subst hxl
  show zK x 0 0 [(0, .ref 11)] [] zE_22 (zi zS0 3 6 (-1 : Int32)) 7 120
  refine z_aload_n (pc := 0) hG 0 rfl rfl dX6_init_0 ?_
  refine z_objinit (pc := 1) hG w57 w34 w_oin (Nat.le_of_ble_eq_true rfl) dX6_init_1 ?_
  refine z_aload_n (pc := 4) hG 0 rfl rfl dX6_init_4 ?_
  refine z_iconst (pc := 5) hG kc_5 dX6_init_5 ?_
  refine z_newa (A' := 6) (B' := 115) (atype := .int) (t := 0) (N := 5) (z := (5, .inl (fun _ => 0))) (pc := 6) hG wa_int rfl (fun _ => rfl) rfl (fun _ _ => Iff.rfl) (i := 12) (by decide +kernel) (by decide) (by decide +kernel) (fun _ _ => rfl) (fun _ => rfl) (by decide) rfl (Nat.le_of_ble_eq_true rfl) rfl rfl (dl' := zE_23) rfl rfl rfl dX6_init_6 ?_
  refine z_putrF (pc := 8) hG hnam zc_X6 inX6 tyX6 tyX6_ok nmX6 (i := 11) (fl := [(0, 0), (3, 0), (3, 0), (3, 0), (3, 0), (3, 0), (0, 0), (0, 0), (3, 0), (0, 0), (3, 0)]) (q := (1, 12)) (by decide +kernel) 1 (by decide) (by decide) rfl (fun _ => rfl) w64 rfl rfl (fun _ => rfl) (fun _ => rfl) (dl' := zE_24) rfl dX6_init_8 ?_
  refine z_aload_n (pc := 11) hG 0 rfl rfl dX6_init_11 ?_
  refine z_iconst (pc := 12) hG kc_5 dX6_init_12 ?_
  refine z_newa (A' := 5) (B' := 110) (atype := .int) (t := 0) (N := 5) (z := (5, .inl (fun _ => 0))) (pc := 13) hG wa_int rfl (fun _ => rfl) rfl (fun _ _ => Iff.rfl) (i := 13) (by decide +kernel) (by decide) (by decide +kernel) (fun _ _ => rfl) (fun _ => rfl) (by decide) rfl (Nat.le_of_ble_eq_true rfl) rfl rfl (dl' := zE_25) rfl rfl rfl dX6_init_13 ?_
  refine z_putrF (pc := 15) hG hnam zc_X6 inX6 tyX6 tyX6_ok nmX6 (i := 11) (fl := [(0, 0), (1, 12), (3, 0), (3, 0), (3, 0), (3, 0), (0, 0), (0, 0), (3, 0), (0, 0), (3, 0)]) (q := (1, 13)) (by decide +kernel) 2 (by decide) (by decide) rfl (fun _ => rfl) w70 rfl rfl (fun _ => rfl) (fun _ => rfl) (dl' := zE_26) rfl dX6_init_15 ?_
  refine z_aload_n (pc := 18) hG 0 rfl rfl dX6_init_18 ?_
  refine z_iconst (pc := 19) hG kc_5 dX6_init_19 ?_
  refine z_newa (A' := 4) (B' := 105) (atype := .int) (t := 0) (N := 5) (z := (5, .inl (fun _ => 0))) (pc := 20) hG wa_int rfl (fun _ => rfl) rfl (fun _ _ => Iff.rfl) (i := 14) (by decide +kernel) (by decide) (by decide +kernel) (fun _ _ => rfl) (fun _ => rfl) (by decide) rfl (Nat.le_of_ble_eq_true rfl) rfl rfl (dl' := zE_27) rfl rfl rfl dX6_init_20 ?_
  refine z_putrF (pc := 22) hG hnam zc_X6 inX6 tyX6 tyX6_ok nmX6 (i := 11) (fl := [(0, 0), (1, 12), (1, 13), (3, 0), (3, 0), (3, 0), (0, 0), (0, 0), (3, 0), (0, 0), (3, 0)]) (q := (1, 14)) (by decide +kernel) 3 (by decide) (by decide) rfl (fun _ => rfl) w74 rfl rfl (fun _ => rfl) (fun _ => rfl) (dl' := zE_28) rfl dX6_init_22 ?_
  refine z_aload_n (pc := 25) hG 0 rfl rfl dX6_init_25 ?_
  refine z_bipush (pc := 26) hG kb_30 dX6_init_26 ?_
  refine z_newa (A' := 3) (B' := 75) (atype := .byte) (t := 1) (N := 30) (z := (30, .inl (fun _ => 0))) (pc := 28) hG wa_byte rfl (fun _ => rfl) rfl (fun _ _ => Iff.rfl) (i := 15) (by decide +kernel) (by decide) (by decide +kernel) (fun _ _ => rfl) (fun _ => rfl) (by decide) rfl (Nat.le_of_ble_eq_true rfl) rfl rfl (dl' := zE_29) rfl rfl rfl dX6_init_28 ?_
  refine z_putrF (pc := 30) hG hnam zc_X6 inX6 tyX6 tyX6_ok nmX6 (i := 11) (fl := [(0, 0), (1, 12), (1, 13), (1, 14), (3, 0), (3, 0), (0, 0), (0, 0), (3, 0), (0, 0), (3, 0)]) (q := (1, 15)) (by decide +kernel) 4 (by decide) (by decide) rfl (fun _ => rfl) w77 rfl rfl (fun _ => rfl) (fun _ => rfl) (dl' := zE_30) rfl dX6_init_30 ?_
  refine z_aload_n (pc := 33) hG 0 rfl rfl dX6_init_33 ?_
  refine z_iconst (pc := 34) hG kc_5 dX6_init_34 ?_
  refine z_newa (A' := 2) (B' := 70) (atype := .int) (t := 0) (N := 5) (z := (5, .inl (fun _ => 0))) (pc := 35) hG wa_int rfl (fun _ => rfl) rfl (fun _ _ => Iff.rfl) (i := 16) (by decide +kernel) (by decide) (by decide +kernel) (fun _ _ => rfl) (fun _ => rfl) (by decide) rfl (Nat.le_of_ble_eq_true rfl) rfl rfl (dl' := zE_31) rfl rfl rfl dX6_init_35 ?_
  refine z_putrF (pc := 37) hG hnam zc_X6 inX6 tyX6 tyX6_ok nmX6 (i := 11) (fl := [(0, 0), (1, 12), (1, 13), (1, 14), (1, 15), (3, 0), (0, 0), (0, 0), (3, 0), (0, 0), (3, 0)]) (q := (1, 16)) (by decide +kernel) 5 (by decide) (by decide) rfl (fun _ => rfl) w79 rfl rfl (fun _ => rfl) (fun _ => rfl) (dl' := zE_32) rfl dX6_init_37 ?_
  refine z_aload_n (pc := 40) hG 0 rfl rfl dX6_init_40 ?_
  refine z_iconst (pc := 41) hG kc_m1 dX6_init_41 ?_
  refine z_puti (pc := 42) hG zc_X6 inX6 tyX6 tyX6_ok nmX6 (i := 11) (fl := [(0, 0), (1, 12), (1, 13), (1, 14), (1, 15), (1, 16), (0, 0), (0, 0), (3, 0), (0, 0), (3, 0)]) (by decide +kernel) 6 rfl (by decide) rfl w81 rfl rfl rfl dX6_init_42 ?_
  refine z_aload_n (pc := 45) hG 0 rfl rfl dX6_init_45 ?_
  refine z_bipush (pc := 46) hG kb_30 dX6_init_46 ?_
  refine z_newa (A' := 1) (B' := 40) (atype := .int) (t := 0) (N := 30) (z := (30, .inl (fun _ => 0))) (pc := 48) hG wa_int rfl (fun _ => rfl) rfl (fun _ _ => Iff.rfl) (i := 17) (by decide +kernel) (by decide) (by decide +kernel) (fun _ _ => rfl) (fun _ => rfl) (by decide) rfl (Nat.le_of_ble_eq_true rfl) rfl rfl (dl' := zE_33) rfl rfl rfl dX6_init_48 ?_
  refine z_putrF (pc := 50) hG hnam zc_X6 inX6 tyX6 tyX6_ok nmX6 (i := 11) (fl := [(0, 0), (1, 12), (1, 13), (1, 14), (1, 15), (1, 16), (0, 0), (0, 0), (3, 0), (0, 0), (3, 0)]) (q := (1, 17)) (by decide +kernel) 8 (by decide) (by decide) rfl (fun _ => rfl) w90 rfl rfl (fun _ => rfl) (fun _ => rfl) (dl' := zE_34) rfl dX6_init_50 ?_
  refine z_aload_n (pc := 53) hG 0 rfl rfl dX6_init_53 ?_
  refine z_bipush (pc := 54) hG kb_40 dX6_init_54 ?_
  refine z_newa (A' := 0) (B' := 0) (atype := .int) (t := 0) (N := 40) (z := (40, .inl (fun _ => 0))) (pc := 56) hG wa_int rfl (fun _ => rfl) rfl (fun _ _ => Iff.rfl) (i := 18) (by decide +kernel) (by decide) (by decide +kernel) (fun _ _ => rfl) (fun _ => rfl) (by decide) rfl (Nat.le_of_ble_eq_true rfl) rfl rfl (dl' := zE_35) rfl rfl rfl dX6_init_56 ?_
  refine z_putrF (pc := 58) hG hnam zc_X6 inX6 tyX6 tyX6_ok nmX6 (i := 11) (fl := [(0, 0), (1, 12), (1, 13), (1, 14), (1, 15), (1, 16), (0, 0), (0, 0), (1, 17), (0, 0), (3, 0)]) (q := (1, 18)) (by decide +kernel) 10 (by decide) (by decide) rfl (fun _ => rfl) w95 rfl rfl (fun _ => rfl) (fun _ => rfl) (dl' := zE_36) rfl dX6_init_58 ?_
  exact z_vret (pc := 61) hG rfl hk dX6_init_61
def zE_37 : List zDs := zE_36.set 0 (.inl (8, [(1, 1), (1, 3), (1, 11), (3, 0), (3, 0), (3, 0), (3, 0), (3, 0), (3, 0), (3, 0), (3, 0), (0, 0), (0, 0)]))
def zE_38 : List zDs := zE_37 ++ [.inl (5, [(3, 0), (3, 0), (0, 0), (0, 0), (0, 0)])]
def zE_39 : List zDs := zE_38.set 19 (.inl (5, [(1, 1), (3, 0), (0, 0), (0, 0), (0, 0)]))
def zE_40 : List zDs := zE_39.set 19 (.inl (5, [(1, 1), (1, 11), (0, 0), (0, 0), (0, 0)]))
set_option maxHeartbeats 400000 in
set_option maxRecDepth 100000 in
theorem ti_X7_init_19 {l : Launch} (hl0 : l.flags = flags0) : zC l yX7_init cX7_init 3 none 0 0 0 [.ref 19, .ref 1, .ref 11] zE_38 (zi (zi zS0 3 6 (-1 : Int32)) 11 6 (-1 : Int32)) (.inl none, zE_40, (zi (zi zS0 3 6 (-1 : Int32)) 11 6 (-1 : Int32))) := by
  refine zC_of hl0 rfl (Nat.le_of_ble_eq_true rfl) (fun x hG hxl hk hnam => ?_)
  subst hxl
  show zK x 0 0 [(0, .ref 19), (1, .ref 1), (2, .ref 11)] [] zE_38 (zi (zi zS0 3 6 (-1 : Int32)) 11 6 (-1 : Int32)) 0 0
  refine z_aload_n (pc := 0) hG 0 rfl rfl dX7_init_0 ?_
  refine z_objinit (pc := 1) hG w127 w34 w_oin (Nat.le_of_ble_eq_true rfl) dX7_init_1 ?_
  refine z_aload_n (pc := 4) hG 0 rfl rfl dX7_init_4 ?_
  refine z_aload_n (pc := 5) hG 1 rfl rfl dX7_init_5 ?_
  refine z_putrF (pc := 6) hG hnam zc_X7 inX7 tyX7 tyX7_ok nmX7 (i := 19) (fl := [(3, 0), (3, 0), (0, 0), (0, 0), (0, 0)]) (q := (1, 1)) (by decide +kernel) 0 (by decide) (by decide) rfl (fun _ => rfl) w128 rfl rfl (fun _ => rfl) (fun _ => rfl) (dl' := zE_39) rfl dX7_init_6 ?_
  refine z_aload_n (pc := 9) hG 0 rfl rfl dX7_init_9 ?_
  refine z_aload_n (pc := 10) hG 2 rfl rfl dX7_init_10 ?_
  refine z_putrF (pc := 11) hG hnam zc_X7 inX7 tyX7 tyX7_ok nmX7 (i := 19) (fl := [(1, 1), (3, 0), (0, 0), (0, 0), (0, 0)]) (q := (1, 11)) (by decide +kernel) 1 (by decide) (by decide) rfl (fun _ => rfl) w129 rfl rfl (fun _ => rfl) (fun _ => rfl) (dl' := zE_40) rfl dX7_init_11 ?_
  exact z_vret (pc := 14) hG rfl hk dX7_init_14
def zE_41 : List zDs := zE_40.set 0 (.inl (8, [(1, 1), (1, 3), (1, 11), (1, 19), (3, 0), (3, 0), (3, 0), (3, 0), (3, 0), (3, 0), (3, 0), (0, 0), (0, 0)]))
def zE_42 : List zDs := zE_41 ++ [.inl (3, [(3, 0), (3, 0), (3, 0), (3, 0), (3, 0), (3, 0), (0, 0)])]
def zE_43 : List zDs := zE_42 ++ [.inr (0, 30)]
def zE_44 : List zDs := zE_43.set 20 (.inl (3, [(3, 0), (1, 21), (3, 0), (3, 0), (3, 0), (3, 0), (0, 0)]))
def zE_45 : List zDs := zE_44 ++ [.inr (0, 32)]
def zE_46 : List zDs := zE_45.set 20 (.inl (3, [(3, 0), (1, 21), (1, 22), (3, 0), (3, 0), (3, 0), (0, 0)]))
def zE_47 : List zDs := zE_46 ++ [.inr (3, 32)]
def zE_48 : List zDs := zE_47.set 20 (.inl (3, [(3, 0), (1, 21), (1, 22), (1, 23), (3, 0), (3, 0), (0, 0)]))
def zE_49 : List zDs := zE_48 ++ [.inr (0, 64)]
def zE_50 : List zDs := zE_49.set 20 (.inl (3, [(3, 0), (1, 21), (1, 22), (1, 23), (1, 24), (3, 0), (0, 0)]))
def zE_51 : List zDs := zE_50 ++ [.inr (0, 64)]
def zE_52 : List zDs := zE_51.set 20 (.inl (3, [(3, 0), (1, 21), (1, 22), (1, 23), (1, 24), (2, 1), (0, 0)]))
def zE_53 : List zDs := zE_52.set 20 (.inl (3, [(3, 0), (1, 21), (1, 22), (1, 23), (2, 0), (2, 1), (0, 0)]))
def zE_54 : List zDs := zE_53.set 20 (.inl (3, [(1, 3), (1, 21), (1, 22), (1, 23), (2, 0), (2, 1), (0, 0)]))
set_option maxHeartbeats 400000 in
set_option maxRecDepth 100000 in
theorem ti_X5_init_20 {l : Launch} (hl0 : l.flags = flags0) : zC l yX5_init cX5_init 2 none 0 5 222 [.ref 20, .ref 3] zE_42 (zi (zi zS0 3 6 (-1 : Int32)) 11 6 (-1 : Int32)) (.inl none, zE_54, (zi (zi zS0 3 6 (-1 : Int32)) 11 6 (-1 : Int32))) := by
  refine zC_of hl0 rfl (Nat.le_of_ble_eq_true rfl) (fun x hG hxl hk hnam => ?_)
  subst hxl
  show zK x 0 0 [(0, .ref 20), (1, .ref 3)] [] zE_42 (zi (zi zS0 3 6 (-1 : Int32)) 11 6 (-1 : Int32)) 5 222
  refine z_aload_n (pc := 0) hG 0 rfl rfl dX5_init_0 ?_
  refine z_objinit (pc := 1) hG w149 w34 w_oin (Nat.le_of_ble_eq_true rfl) dX5_init_1 ?_
  refine z_aload_n (pc := 4) hG 0 rfl rfl dX5_init_4 ?_
  refine z_bipush (pc := 5) hG kb_30 dX5_init_5 ?_
  refine z_newa (A' := 4) (B' := 192) (atype := .int) (t := 0) (N := 30) (z := (30, .inl (fun _ => 0))) (pc := 7) hG wa_int rfl (fun _ => rfl) rfl (fun _ _ => Iff.rfl) (i := 21) (by decide +kernel) (by decide) (by decide +kernel) (fun _ _ => rfl) (fun _ => rfl) (by decide) rfl (Nat.le_of_ble_eq_true rfl) rfl rfl (dl' := zE_43) rfl rfl rfl dX5_init_7 ?_
  refine z_putrF (pc := 9) hG hnam zc_X5 inX5 tyX5 tyX5_ok nmX5 (i := 20) (fl := [(3, 0), (3, 0), (3, 0), (3, 0), (3, 0), (3, 0), (0, 0)]) (q := (1, 21)) (by decide +kernel) 1 (by decide) (by decide) rfl (fun _ => rfl) w151 rfl rfl (fun _ => rfl) (fun _ => rfl) (dl' := zE_44) rfl dX5_init_9 ?_
  refine z_aload_n (pc := 12) hG 0 rfl rfl dX5_init_12 ?_
  refine z_bipush (pc := 13) hG kb_32 dX5_init_13 ?_
  refine z_newa (A' := 3) (B' := 160) (atype := .int) (t := 0) (N := 32) (z := (32, .inl (fun _ => 0))) (pc := 15) hG wa_int rfl (fun _ => rfl) rfl (fun _ _ => Iff.rfl) (i := 22) (by decide +kernel) (by decide) (by decide +kernel) (fun _ _ => rfl) (fun _ => rfl) (by decide) rfl (Nat.le_of_ble_eq_true rfl) rfl rfl (dl' := zE_45) rfl rfl rfl dX5_init_15 ?_
  refine z_putrF (pc := 17) hG hnam zc_X5 inX5 tyX5 tyX5_ok nmX5 (i := 20) (fl := [(3, 0), (1, 21), (3, 0), (3, 0), (3, 0), (3, 0), (0, 0)]) (q := (1, 22)) (by decide +kernel) 2 (by decide) (by decide) rfl (fun _ => rfl) w152 rfl rfl (fun _ => rfl) (fun _ => rfl) (dl' := zE_46) rfl dX5_init_17 ?_
  refine z_aload_n (pc := 20) hG 0 rfl rfl dX5_init_20 ?_
  refine z_bipush (pc := 21) hG kb_32 dX5_init_21 ?_
  refine z_newa (A' := 2) (B' := 128) (atype := .long) (t := 3) (N := 32) (z := (32, .inr (.inl (fun _ => 0)))) (pc := 23) hG wa_long rfl (fun _ => rfl) rfl (fun _ _ => Iff.rfl) (i := 23) (by decide +kernel) (by decide) (by decide +kernel) (fun _ _ => rfl) (fun _ => rfl) (by decide) rfl (Nat.le_of_ble_eq_true rfl) rfl rfl (dl' := zE_47) rfl rfl rfl dX5_init_23 ?_
  refine z_putrF (pc := 25) hG hnam zc_X5 inX5 tyX5 tyX5_ok nmX5 (i := 20) (fl := [(3, 0), (1, 21), (1, 22), (3, 0), (3, 0), (3, 0), (0, 0)]) (q := (1, 23)) (by decide +kernel) 3 (by decide) (by decide) rfl (fun _ => rfl) w153 rfl rfl (fun _ => rfl) (fun _ => rfl) (dl' := zE_48) rfl dX5_init_25 ?_
  refine z_aload_n (pc := 28) hG 0 rfl rfl dX5_init_28 ?_
  refine z_bipush (pc := 29) hG kb_64 dX5_init_29 ?_
  refine z_newa (A' := 1) (B' := 64) (atype := .int) (t := 0) (N := 64) (z := (64, .inl (fun _ => 0))) (pc := 31) hG wa_int rfl (fun _ => rfl) rfl (fun _ _ => Iff.rfl) (i := 24) (by decide +kernel) (by decide) (by decide +kernel) (fun _ _ => rfl) (fun _ => rfl) (by decide) rfl (Nat.le_of_ble_eq_true rfl) rfl rfl (dl' := zE_49) rfl rfl rfl dX5_init_31 ?_
  refine z_putr (pc := 33) hG zc_X5 inX5 tyX5 tyX5_ok nmX5 (i := 20) (fl := [(3, 0), (1, 21), (1, 22), (1, 23), (3, 0), (3, 0), (0, 0)]) (q := (1, 24)) (by decide +kernel) 4 (by decide) (by decide) rfl (fun _ => rfl) w154 rfl (fun _ => rfl) (fun _ => rfl) (dl' := zE_50) rfl dX5_init_33 ?_
  refine z_aload_n (pc := 36) hG 0 rfl rfl dX5_init_36 ?_
  refine z_bipush (pc := 37) hG kb_64 dX5_init_37 ?_
  refine z_newa (A' := 0) (B' := 0) (atype := .int) (t := 0) (N := 64) (z := (64, .inl (fun _ => 0))) (pc := 39) hG wa_int rfl (fun _ => rfl) rfl (fun _ _ => Iff.rfl) (i := 25) (by decide +kernel) (by decide) (by decide +kernel) (fun _ _ => rfl) (fun _ => rfl) (by decide) rfl (Nat.le_of_ble_eq_true rfl) rfl rfl (dl' := zE_51) rfl rfl rfl dX5_init_39 ?_
  refine z_putr (pc := 41) hG zc_X5 inX5 tyX5 tyX5_ok nmX5 (i := 20) (fl := [(3, 0), (1, 21), (1, 22), (1, 23), (1, 24), (3, 0), (0, 0)]) (q := (2, 1)) (by decide +kernel) 5 (by decide) (by decide) rfl (fun _ => rfl) w155 rfl (fun _ => rfl) (fun _ => rfl) (dl' := zE_52) rfl dX5_init_41 ?_
  refine z_redesc (i := 20) (d := .inl (3, [(3, 0), (1, 21), (1, 22), (1, 23), (1, 24), (2, 1), (0, 0)])) (d' := .inl (3, [(3, 0), (1, 21), (1, 22), (1, 23), (2, 0), (2, 1), (0, 0)])) (by decide +kernel) (fun _ _ => rfl) (dl' := zE_53) rfl ?_
  refine z_aload_n (pc := 44) hG 0 rfl rfl dX5_init_44 ?_
  refine z_aload_n (pc := 45) hG 1 rfl rfl dX5_init_45 ?_
  refine z_putrF (pc := 46) hG hnam zc_X5 inX5 tyX5 tyX5_ok nmX5 (i := 20) (fl := [(3, 0), (1, 21), (1, 22), (1, 23), (2, 0), (2, 1), (0, 0)]) (q := (1, 3)) (by decide +kernel) 0 (by decide) (by decide) rfl (fun _ => rfl) w150 rfl rfl (fun _ => rfl) (fun _ => rfl) (dl' := zE_54) rfl dX5_init_46 ?_
  exact z_vret (pc := 49) hG rfl hk dX5_init_49
def zE_55 : List zDs := zE_54.set 0 (.inl (8, [(1, 1), (1, 3), (1, 11), (1, 19), (1, 20), (3, 0), (3, 0), (3, 0), (3, 0), (3, 0), (3, 0), (0, 0), (0, 0)]))
def zE_56 : List zDs := zE_55 ++ [.inl (0, [(3, 0), (3, 0), (3, 0), (0, 0), (0, 0), (3, 0), (3, 0), (3, 0)])]
def zE_57 : List zDs := zE_56 ++ [.inr (4, 64)]
def zE_58 : List zDs := zE_57.set 26 (.inl (0, [(3, 0), (3, 0), (1, 27), (0, 0), (0, 0), (3, 0), (3, 0), (3, 0)]))
def zE_59 : List zDs := zE_58 ++ [.inr (0, 5)]
def zE_60 : List zDs := zE_59.set 26 (.inl (0, [(3, 0), (3, 0), (1, 27), (0, 0), (0, 0), (1, 28), (3, 0), (3, 0)]))
def zE_61 : List zDs := zE_60 ++ [.inr (3, 6)]
def zE_62 : List zDs := zE_61.set 26 (.inl (0, [(3, 0), (3, 0), (1, 27), (0, 0), (0, 0), (1, 28), (1, 29), (3, 0)]))
def zE_63 : List zDs := zE_62 ++ [.inr (3, 25)]
def zE_64 : List zDs := zE_63.set 26 (.inl (0, [(3, 0), (3, 0), (1, 27), (0, 0), (0, 0), (1, 28), (1, 29), (1, 30)]))
def zE_65 : List zDs := zE_64.set 26 (.inl (0, [(1, 3), (3, 0), (1, 27), (0, 0), (0, 0), (1, 28), (1, 29), (1, 30)]))
def zE_66 : List zDs := zE_65.set 26 (.inl (0, [(1, 3), (1, 20), (1, 27), (0, 0), (0, 0), (1, 28), (1, 29), (1, 30)]))
set_option maxHeartbeats 400000 in
set_option maxRecDepth 100000 in
theorem ti_X0_init_26 {l : Launch} (hl0 : l.flags = flags0) : zC l yX0_init cX0_init 3 none 0 4 100 [.ref 26, .ref 3, .ref 20] zE_56 (zi (zi zS0 3 6 (-1 : Int32)) 11 6 (-1 : Int32)) (.inl none, zE_66, (zi (zi zS0 3 6 (-1 : Int32)) 11 6 (-1 : Int32))) := by
  refine zC_of hl0 rfl (Nat.le_of_ble_eq_true rfl) (fun x hG hxl hk hnam => ?_)
  subst hxl
  show zK x 0 0 [(0, .ref 26), (1, .ref 3), (2, .ref 20)] [] zE_56 (zi (zi zS0 3 6 (-1 : Int32)) 11 6 (-1 : Int32)) 4 100
  refine z_aload_n (pc := 0) hG 0 rfl rfl dX0_init_0 ?_
  refine z_objinit (pc := 1) hG w180 w34 w_oin (Nat.le_of_ble_eq_true rfl) dX0_init_1 ?_
  refine z_aload_n (pc := 4) hG 0 rfl rfl dX0_init_4 ?_
  refine z_bipush (pc := 5) hG kb_64 dX0_init_5 ?_
  refine z_newa (A' := 3) (B' := 36) (atype := .int) (t := 0) (N := 64) (z := (64, .inl (fun _ => 0))) (pc := 7) hG wa_int rfl (fun _ => rfl) rfl (fun _ _ => Iff.rfl) (i := 27) (by decide +kernel) (by decide) (by decide +kernel) (fun _ _ => rfl) (fun _ => rfl) (by decide) rfl (Nat.le_of_ble_eq_true rfl) rfl rfl (dl' := zE_57) rfl rfl rfl dX0_init_7 ?_
  refine z_putr (pc := 9) hG zc_X0 inX0 tyX0 tyX0_ok nmX0 (i := 26) (fl := [(3, 0), (3, 0), (3, 0), (0, 0), (0, 0), (3, 0), (3, 0), (3, 0)]) (q := (1, 27)) (by decide +kernel) 2 (by decide) (by decide) rfl (fun _ => rfl) w183 rfl (fun _ => rfl) (fun _ => rfl) (dl' := zE_58) rfl dX0_init_9 ?_
  refine z_aload_n (pc := 12) hG 0 rfl rfl dX0_init_12 ?_
  refine z_iconst (pc := 13) hG kc_5 dX0_init_13 ?_
  refine z_newa (A' := 2) (B' := 31) (atype := .int) (t := 0) (N := 5) (z := (5, .inl (fun _ => 0))) (pc := 14) hG wa_int rfl (fun _ => rfl) rfl (fun _ _ => Iff.rfl) (i := 28) (by decide +kernel) (by decide) (by decide +kernel) (fun _ _ => rfl) (fun _ => rfl) (by decide) rfl (Nat.le_of_ble_eq_true rfl) rfl rfl (dl' := zE_59) rfl rfl rfl dX0_init_14 ?_
  refine z_putrF (pc := 16) hG hnam zc_X0 inX0 tyX0 tyX0_ok nmX0 (i := 26) (fl := [(3, 0), (3, 0), (1, 27), (0, 0), (0, 0), (3, 0), (3, 0), (3, 0)]) (q := (1, 28)) (by decide +kernel) 5 (by decide) (by decide) rfl (fun _ => rfl) w186 rfl rfl (fun _ => rfl) (fun _ => rfl) (dl' := zE_60) rfl dX0_init_16 ?_
  refine z_aload_n (pc := 19) hG 0 rfl rfl dX0_init_19 ?_
  refine z_bipush (pc := 20) hG kb_6 dX0_init_20 ?_
  refine z_newa (A' := 1) (B' := 25) (atype := .long) (t := 3) (N := 6) (z := (6, .inr (.inl (fun _ => 0)))) (pc := 22) hG wa_long rfl (fun _ => rfl) rfl (fun _ _ => Iff.rfl) (i := 29) (by decide +kernel) (by decide) (by decide +kernel) (fun _ _ => rfl) (fun _ => rfl) (by decide) rfl (Nat.le_of_ble_eq_true rfl) rfl rfl (dl' := zE_61) rfl rfl rfl dX0_init_22 ?_
  refine z_putrF (pc := 24) hG hnam zc_X0 inX0 tyX0 tyX0_ok nmX0 (i := 26) (fl := [(3, 0), (3, 0), (1, 27), (0, 0), (0, 0), (1, 28), (3, 0), (3, 0)]) (q := (1, 29)) (by decide +kernel) 6 (by decide) (by decide) rfl (fun _ => rfl) w187 rfl rfl (fun _ => rfl) (fun _ => rfl) (dl' := zE_62) rfl dX0_init_24 ?_
  refine z_aload_n (pc := 27) hG 0 rfl rfl dX0_init_27 ?_
  refine z_bipush (pc := 28) hG kb_25 dX0_init_28 ?_
  refine z_newa (A' := 0) (B' := 0) (atype := .long) (t := 3) (N := 25) (z := (25, .inr (.inl (fun _ => 0)))) (pc := 30) hG wa_long rfl (fun _ => rfl) rfl (fun _ _ => Iff.rfl) (i := 30) (by decide +kernel) (by decide) (by decide +kernel) (fun _ _ => rfl) (fun _ => rfl) (by decide) rfl (Nat.le_of_ble_eq_true rfl) rfl rfl (dl' := zE_63) rfl rfl rfl dX0_init_30 ?_
  refine z_putrF (pc := 32) hG hnam zc_X0 inX0 tyX0 tyX0_ok nmX0 (i := 26) (fl := [(3, 0), (3, 0), (1, 27), (0, 0), (0, 0), (1, 28), (1, 29), (3, 0)]) (q := (1, 30)) (by decide +kernel) 7 (by decide) (by decide) rfl (fun _ => rfl) w188 rfl rfl (fun _ => rfl) (fun _ => rfl) (dl' := zE_64) rfl dX0_init_32 ?_
  refine z_aload_n (pc := 35) hG 0 rfl rfl dX0_init_35 ?_
  refine z_aload_n (pc := 36) hG 1 rfl rfl dX0_init_36 ?_
  refine z_putrF (pc := 37) hG hnam zc_X0 inX0 tyX0 tyX0_ok nmX0 (i := 26) (fl := [(3, 0), (3, 0), (1, 27), (0, 0), (0, 0), (1, 28), (1, 29), (1, 30)]) (q := (1, 3)) (by decide +kernel) 0 (by decide) (by decide) rfl (fun _ => rfl) w181 rfl rfl (fun _ => rfl) (fun _ => rfl) (dl' := zE_65) rfl dX0_init_37 ?_
  refine z_aload_n (pc := 40) hG 0 rfl rfl dX0_init_40 ?_
  refine z_aload_n (pc := 41) hG 2 rfl rfl dX0_init_41 ?_
  refine z_putrF (pc := 42) hG hnam zc_X0 inX0 tyX0 tyX0_ok nmX0 (i := 26) (fl := [(1, 3), (3, 0), (1, 27), (0, 0), (0, 0), (1, 28), (1, 29), (1, 30)]) (q := (1, 20)) (by decide +kernel) 1 (by decide) (by decide) rfl (fun _ => rfl) w182 rfl rfl (fun _ => rfl) (fun _ => rfl) (dl' := zE_66) rfl dX0_init_42 ?_
  exact z_vret (pc := 45) hG rfl hk dX0_init_45
def zE_67 : List zDs := zE_66.set 0 (.inl (8, [(1, 1), (1, 3), (1, 11), (1, 19), (1, 20), (1, 26), (3, 0), (3, 0), (3, 0), (3, 0), (3, 0), (0, 0), (0, 0)]))
def zE_68 : List zDs := zE_67 ++ [.inl (6, [(3, 0), (0, 0), (0, 0), (3, 0)])]
def zE_69 : List zDs := zE_68 ++ [.inr (0, 40)]
def zE_70 : List zDs := zE_69.set 31 (.inl (6, [(1, 32), (0, 0), (0, 0), (3, 0)]))
def zE_71 : List zDs := zE_70 ++ [.inr (0, 656)]
def zE_72 : List zDs := zE_71.set 31 (.inl (6, [(1, 32), (0, 0), (0, 0), (1, 33)]))
set_option maxHeartbeats 400000 in
set_option maxRecDepth 100000 in
theorem ti_X8_init_31 {l : Launch} (hl0 : l.flags = flags0) : zC l yX8_init cX8_init 1 none 0 2 696 [.ref 31] zE_68 (zi (zi zS0 3 6 (-1 : Int32)) 11 6 (-1 : Int32)) (.inl none, zE_72, (zi (zi zS0 3 6 (-1 : Int32)) 11 6 (-1 : Int32))) := by
  refine zC_of hl0 rfl (Nat.le_of_ble_eq_true rfl) (fun x hG hxl hk hnam => ?_)
  subst hxl
  show zK x 0 0 [(0, .ref 31)] [] zE_68 (zi (zi zS0 3 6 (-1 : Int32)) 11 6 (-1 : Int32)) 2 696
  refine z_aload_n (pc := 0) hG 0 rfl rfl dX8_init_0 ?_
  refine z_objinit (pc := 1) hG w211 w34 w_oin (Nat.le_of_ble_eq_true rfl) dX8_init_1 ?_
  refine z_aload_n (pc := 4) hG 0 rfl rfl dX8_init_4 ?_
  refine z_bipush (pc := 5) hG kb_40 dX8_init_5 ?_
  refine z_newa (A' := 1) (B' := 656) (atype := .int) (t := 0) (N := 40) (z := (40, .inl (fun _ => 0))) (pc := 7) hG wa_int rfl (fun _ => rfl) rfl (fun _ _ => Iff.rfl) (i := 32) (by decide +kernel) (by decide) (by decide +kernel) (fun _ _ => rfl) (fun _ => rfl) (by decide) rfl (Nat.le_of_ble_eq_true rfl) rfl rfl (dl' := zE_69) rfl rfl rfl dX8_init_7 ?_
  refine z_putrF (pc := 9) hG hnam zc_X8 inX8 tyX8 tyX8_ok nmX8 (i := 31) (fl := [(3, 0), (0, 0), (0, 0), (3, 0)]) (q := (1, 32)) (by decide +kernel) 0 (by decide) (by decide) rfl (fun _ => rfl) w212 rfl rfl (fun _ => rfl) (fun _ => rfl) (dl' := zE_70) rfl dX8_init_9 ?_
  refine z_aload_n (pc := 12) hG 0 rfl rfl dX8_init_12 ?_
  refine z_sipush (pc := 13) hG ks_656 dX8_init_13 ?_
  refine z_newa (A' := 0) (B' := 0) (atype := .int) (t := 0) (N := 656) (z := (656, .inl (fun _ => 0))) (pc := 16) hG wa_int rfl (fun _ => rfl) rfl (fun _ _ => Iff.rfl) (i := 33) (by decide +kernel) (by decide) (by decide +kernel) (fun _ _ => rfl) (fun _ => rfl) (by decide) rfl (Nat.le_of_ble_eq_true rfl) rfl rfl (dl' := zE_71) rfl rfl rfl dX8_init_16 ?_
  refine z_putrF (pc := 18) hG hnam zc_X8 inX8 tyX8 tyX8_ok nmX8 (i := 31) (fl := [(1, 32), (0, 0), (0, 0), (3, 0)]) (q := (1, 33)) (by decide +kernel) 3 (by decide) (by decide) rfl (fun _ => rfl) w222 rfl rfl (fun _ => rfl) (fun _ => rfl) (dl' := zE_72) rfl dX8_init_18 ?_
  exact z_vret (pc := 21) hG rfl hk dX8_init_21
def zE_73 : List zDs := zE_72.set 0 (.inl (8, [(1, 1), (1, 3), (1, 11), (1, 19), (1, 20), (1, 26), (1, 31), (3, 0), (3, 0), (3, 0), (3, 0), (0, 0), (0, 0)]))
def zE_74 : List zDs := zE_73 ++ [.inl (1, [(3, 0), (3, 0), (3, 0), (3, 0), (3, 0), (0, 0)])]
def zE_75 : List zDs := zE_74 ++ [.inr (0, 40)]
def zE_76 : List zDs := zE_75.set 34 (.inl (1, [(3, 0), (3, 0), (3, 0), (1, 35), (3, 0), (0, 0)]))
def zE_77 : List zDs := zE_76 ++ [.inr (0, 40)]
def zE_78 : List zDs := zE_77.set 34 (.inl (1, [(3, 0), (3, 0), (3, 0), (1, 35), (1, 36), (0, 0)]))
def zE_79 : List zDs := zE_78.set 34 (.inl (1, [(1, 3), (3, 0), (3, 0), (1, 35), (1, 36), (0, 0)]))
def zE_80 : List zDs := zE_79.set 34 (.inl (1, [(1, 3), (1, 20), (3, 0), (1, 35), (1, 36), (0, 0)]))
def zE_81 : List zDs := zE_80.set 34 (.inl (1, [(1, 3), (1, 20), (1, 31), (1, 35), (1, 36), (0, 0)]))
set_option maxHeartbeats 400000 in
set_option maxRecDepth 100000 in
theorem ti_X2_init_34 {l : Launch} (hl0 : l.flags = flags0) : zC l yX2_init cX2_init 4 none 0 2 80 [.ref 34, .ref 3, .ref 20, .ref 31] zE_74 (zi (zi zS0 3 6 (-1 : Int32)) 11 6 (-1 : Int32)) (.inl none, zE_81, (zi (zi zS0 3 6 (-1 : Int32)) 11 6 (-1 : Int32))) := by
  refine zC_of hl0 rfl (Nat.le_of_ble_eq_true rfl) (fun x hG hxl hk hnam => ?_)
  subst hxl
  show zK x 0 0 [(0, .ref 34), (1, .ref 3), (2, .ref 20), (3, .ref 31)] [] zE_74 (zi (zi zS0 3 6 (-1 : Int32)) 11 6 (-1 : Int32)) 2 80
  refine z_aload_n (pc := 0) hG 0 rfl rfl dX2_init_0 ?_
  refine z_objinit (pc := 1) hG w237 w34 w_oin (Nat.le_of_ble_eq_true rfl) dX2_init_1 ?_
  refine z_aload_n (pc := 4) hG 0 rfl rfl dX2_init_4 ?_
  refine z_bipush (pc := 5) hG kb_40 dX2_init_5 ?_
  refine z_newa (A' := 1) (B' := 40) (atype := .int) (t := 0) (N := 40) (z := (40, .inl (fun _ => 0))) (pc := 7) hG wa_int rfl (fun _ => rfl) rfl (fun _ _ => Iff.rfl) (i := 35) (by decide +kernel) (by decide) (by decide +kernel) (fun _ _ => rfl) (fun _ => rfl) (by decide) rfl (Nat.le_of_ble_eq_true rfl) rfl rfl (dl' := zE_75) rfl rfl rfl dX2_init_7 ?_
  refine z_putrF (pc := 9) hG hnam zc_X2 inX2 tyX2 tyX2_ok nmX2 (i := 34) (fl := [(3, 0), (3, 0), (3, 0), (3, 0), (3, 0), (0, 0)]) (q := (1, 35)) (by decide +kernel) 3 (by decide) (by decide) rfl (fun _ => rfl) w241 rfl rfl (fun _ => rfl) (fun _ => rfl) (dl' := zE_76) rfl dX2_init_9 ?_
  refine z_aload_n (pc := 12) hG 0 rfl rfl dX2_init_12 ?_
  refine z_bipush (pc := 13) hG kb_40 dX2_init_13 ?_
  refine z_newa (A' := 0) (B' := 0) (atype := .int) (t := 0) (N := 40) (z := (40, .inl (fun _ => 0))) (pc := 15) hG wa_int rfl (fun _ => rfl) rfl (fun _ _ => Iff.rfl) (i := 36) (by decide +kernel) (by decide) (by decide +kernel) (fun _ _ => rfl) (fun _ => rfl) (by decide) rfl (Nat.le_of_ble_eq_true rfl) rfl rfl (dl' := zE_77) rfl rfl rfl dX2_init_15 ?_
  refine z_putrF (pc := 17) hG hnam zc_X2 inX2 tyX2 tyX2_ok nmX2 (i := 34) (fl := [(3, 0), (3, 0), (3, 0), (1, 35), (3, 0), (0, 0)]) (q := (1, 36)) (by decide +kernel) 4 (by decide) (by decide) rfl (fun _ => rfl) w242 rfl rfl (fun _ => rfl) (fun _ => rfl) (dl' := zE_78) rfl dX2_init_17 ?_
  refine z_aload_n (pc := 20) hG 0 rfl rfl dX2_init_20 ?_
  refine z_aload_n (pc := 21) hG 1 rfl rfl dX2_init_21 ?_
  refine z_putrF (pc := 22) hG hnam zc_X2 inX2 tyX2 tyX2_ok nmX2 (i := 34) (fl := [(3, 0), (3, 0), (3, 0), (1, 35), (1, 36), (0, 0)]) (q := (1, 3)) (by decide +kernel) 0 (by decide) (by decide) rfl (fun _ => rfl) w238 rfl rfl (fun _ => rfl) (fun _ => rfl) (dl' := zE_79) rfl dX2_init_22 ?_
  refine z_aload_n (pc := 25) hG 0 rfl rfl dX2_init_25 ?_
  refine z_aload_n (pc := 26) hG 2 rfl rfl dX2_init_26 ?_
  refine z_putrF (pc := 27) hG hnam zc_X2 inX2 tyX2 tyX2_ok nmX2 (i := 34) (fl := [(1, 3), (3, 0), (3, 0), (1, 35), (1, 36), (0, 0)]) (q := (1, 20)) (by decide +kernel) 1 (by decide) (by decide) rfl (fun _ => rfl) w239 rfl rfl (fun _ => rfl) (fun _ => rfl) (dl' := zE_80) rfl dX2_init_27 ?_
  refine z_aload_n (pc := 30) hG 0 rfl rfl dX2_init_30 ?_
  refine z_aload_n (pc := 31) hG 3 rfl rfl dX2_init_31 ?_
  refine z_putrF (pc := 32) hG hnam zc_X2 inX2 tyX2 tyX2_ok nmX2 (i := 34) (fl := [(1, 3), (1, 20), (3, 0), (1, 35), (1, 36), (0, 0)]) (q := (1, 31)) (by decide +kernel) 2 (by decide) (by decide) rfl (fun _ => rfl) w240 rfl rfl (fun _ => rfl) (fun _ => rfl) (dl' := zE_81) rfl dX2_init_32 ?_
  exact z_vret (pc := 35) hG rfl hk dX2_init_35
def zE_82 : List zDs := zE_81.set 0 (.inl (8, [(1, 1), (1, 3), (1, 11), (1, 19), (1, 20), (1, 26), (1, 31), (1, 34), (3, 0), (3, 0), (3, 0), (0, 0), (0, 0)]))
def zE_83 : List zDs := zE_82 ++ [.inl (2, [(3, 0), (3, 0), (3, 0), (3, 0), (3, 0)])]
def zE_84 : List zDs := zE_83 ++ [.inr (0, 40)]
def zE_85 : List zDs := zE_84.set 37 (.inl (2, [(3, 0), (3, 0), (3, 0), (1, 38), (3, 0)]))
def zE_86 : List zDs := zE_85 ++ [.inr (0, 40)]
def zE_87 : List zDs := zE_86.set 37 (.inl (2, [(3, 0), (3, 0), (3, 0), (1, 38), (1, 39)]))
def zE_88 : List zDs := zE_87.set 37 (.inl (2, [(1, 3), (3, 0), (3, 0), (1, 38), (1, 39)]))
def zE_89 : List zDs := zE_88.set 37 (.inl (2, [(1, 3), (1, 20), (3, 0), (1, 38), (1, 39)]))
def zE_90 : List zDs := zE_89.set 37 (.inl (2, [(1, 3), (1, 20), (1, 31), (1, 38), (1, 39)]))
set_option maxHeartbeats 400000 in
set_option maxRecDepth 100000 in
theorem ti_X4_init_37 {l : Launch} (hl0 : l.flags = flags0) : zC l yX4_init cX4_init 4 none 0 2 80 [.ref 37, .ref 3, .ref 20, .ref 31] zE_83 (zi (zi zS0 3 6 (-1 : Int32)) 11 6 (-1 : Int32)) (.inl none, zE_90, (zi (zi zS0 3 6 (-1 : Int32)) 11 6 (-1 : Int32))) := by
  refine zC_of hl0 rfl (Nat.le_of_ble_eq_true rfl) (fun x hG hxl hk hnam => ?_)
  subst hxl
  show zK x 0 0 [(0, .ref 37), (1, .ref 3), (2, .ref 20), (3, .ref 31)] [] zE_83 (zi (zi zS0 3 6 (-1 : Int32)) 11 6 (-1 : Int32)) 2 80
  refine z_aload_n (pc := 0) hG 0 rfl rfl dX4_init_0 ?_
  refine z_objinit (pc := 1) hG w262 w34 w_oin (Nat.le_of_ble_eq_true rfl) dX4_init_1 ?_
  refine z_aload_n (pc := 4) hG 0 rfl rfl dX4_init_4 ?_
  refine z_bipush (pc := 5) hG kb_40 dX4_init_5 ?_
  refine z_newa (A' := 1) (B' := 40) (atype := .int) (t := 0) (N := 40) (z := (40, .inl (fun _ => 0))) (pc := 7) hG wa_int rfl (fun _ => rfl) rfl (fun _ _ => Iff.rfl) (i := 38) (by decide +kernel) (by decide) (by decide +kernel) (fun _ _ => rfl) (fun _ => rfl) (by decide) rfl (Nat.le_of_ble_eq_true rfl) rfl rfl (dl' := zE_84) rfl rfl rfl dX4_init_7 ?_
  refine z_putrF (pc := 9) hG hnam zc_X4 inX4 tyX4 tyX4_ok nmX4 (i := 37) (fl := [(3, 0), (3, 0), (3, 0), (3, 0), (3, 0)]) (q := (1, 38)) (by decide +kernel) 3 (by decide) (by decide) rfl (fun _ => rfl) w266 rfl rfl (fun _ => rfl) (fun _ => rfl) (dl' := zE_85) rfl dX4_init_9 ?_
  refine z_aload_n (pc := 12) hG 0 rfl rfl dX4_init_12 ?_
  refine z_bipush (pc := 13) hG kb_40 dX4_init_13 ?_
  refine z_newa (A' := 0) (B' := 0) (atype := .int) (t := 0) (N := 40) (z := (40, .inl (fun _ => 0))) (pc := 15) hG wa_int rfl (fun _ => rfl) rfl (fun _ _ => Iff.rfl) (i := 39) (by decide +kernel) (by decide) (by decide +kernel) (fun _ _ => rfl) (fun _ => rfl) (by decide) rfl (Nat.le_of_ble_eq_true rfl) rfl rfl (dl' := zE_86) rfl rfl rfl dX4_init_15 ?_
  refine z_putrF (pc := 17) hG hnam zc_X4 inX4 tyX4 tyX4_ok nmX4 (i := 37) (fl := [(3, 0), (3, 0), (3, 0), (1, 38), (3, 0)]) (q := (1, 39)) (by decide +kernel) 4 (by decide) (by decide) rfl (fun _ => rfl) w267 rfl rfl (fun _ => rfl) (fun _ => rfl) (dl' := zE_87) rfl dX4_init_17 ?_
  refine z_aload_n (pc := 20) hG 0 rfl rfl dX4_init_20 ?_
  refine z_aload_n (pc := 21) hG 1 rfl rfl dX4_init_21 ?_
  refine z_putrF (pc := 22) hG hnam zc_X4 inX4 tyX4 tyX4_ok nmX4 (i := 37) (fl := [(3, 0), (3, 0), (3, 0), (1, 38), (1, 39)]) (q := (1, 3)) (by decide +kernel) 0 (by decide) (by decide) rfl (fun _ => rfl) w263 rfl rfl (fun _ => rfl) (fun _ => rfl) (dl' := zE_88) rfl dX4_init_22 ?_
  refine z_aload_n (pc := 25) hG 0 rfl rfl dX4_init_25 ?_
  refine z_aload_n (pc := 26) hG 2 rfl rfl dX4_init_26 ?_
  refine z_putrF (pc := 27) hG hnam zc_X4 inX4 tyX4 tyX4_ok nmX4 (i := 37) (fl := [(1, 3), (3, 0), (3, 0), (1, 38), (1, 39)]) (q := (1, 20)) (by decide +kernel) 1 (by decide) (by decide) rfl (fun _ => rfl) w264 rfl rfl (fun _ => rfl) (fun _ => rfl) (dl' := zE_89) rfl dX4_init_27 ?_
  refine z_aload_n (pc := 30) hG 0 rfl rfl dX4_init_30 ?_
  refine z_aload_n (pc := 31) hG 3 rfl rfl dX4_init_31 ?_
  refine z_putrF (pc := 32) hG hnam zc_X4 inX4 tyX4 tyX4_ok nmX4 (i := 37) (fl := [(1, 3), (1, 20), (3, 0), (1, 38), (1, 39)]) (q := (1, 31)) (by decide +kernel) 2 (by decide) (by decide) rfl (fun _ => rfl) w265 rfl rfl (fun _ => rfl) (fun _ => rfl) (dl' := zE_90) rfl dX4_init_32 ?_
  exact z_vret (pc := 35) hG rfl hk dX4_init_35
def zE_91 : List zDs := zE_90.set 0 (.inl (8, [(1, 1), (1, 3), (1, 11), (1, 19), (1, 20), (1, 26), (1, 31), (1, 34), (1, 37), (3, 0), (3, 0), (0, 0), (0, 0)]))
def zE_92 : List zDs := zE_91 ++ [.inr (0, 40)]
def zE_93 : List zDs := zE_92.set 0 (.inl (8, [(1, 1), (1, 3), (1, 11), (1, 19), (1, 20), (1, 26), (1, 31), (1, 34), (1, 37), (1, 40), (3, 0), (0, 0), (0, 0)]))
def zE_94 : List zDs := zE_93 ++ [.inr (1, 5)]
def zE_95 : List zDs := zE_94.set 0 (.inl (8, [(1, 1), (1, 3), (1, 11), (1, 19), (1, 20), (1, 26), (1, 31), (1, 34), (1, 37), (1, 40), (1, 41), (0, 0), (0, 0)]))
set_option maxHeartbeats 400000 in
set_option maxRecDepth 100000 in
theorem ti_X10_init_0 {l : Launch} (hl0 : l.flags = flags0) : zCx l yX10_init (.code yX10_init cX10_init 1 none) 1 41 1922 [.ref 0] zE_1 zS0 (.inl none, zE_95, (zi (zi (zi (zi zS0 3 6 (-1 : Int32)) 11 6 (-1 : Int32)) 0 11 (0 : Int32)) 0 12 (-1 : Int32))) := by
  refine zCx_of hl0 rfl (Nat.le_of_ble_eq_true rfl) (fun x hG hPx hxl hk hnam => ?_)
  subst hxl
  show zK x 1 0 [(0, .ref 0)] [] zE_1 zS0 41 1922
  refine z_aload_n (pc := 0) hG 0 rfl rfl dX10_init_0 ?_
  refine z_objinit (pc := 1) hG w33 w34 w_oin (Nat.le_of_ble_eq_true rfl) dX10_init_1 ?_
  refine z_aload_n (pc := 4) hG 0 rfl rfl dX10_init_4 ?_
  refine z_new (A' := 40) (B' := 1920) (fl := [(3, 0), (0, 0)]) (pc := 5) hG zc_X9 inX9 tyX9 tyX9_ok w36 w37 w2 (i := 1) (by decide +kernel) (by decide) (by decide +kernel) (fun _ => rfl) rfl (by decide +kernel) rfl rfl (dl' := zE_2) rfl rfl rfl dX10_init_5 ?_
  refine z_dup (pc := 8) hG rfl dX10_init_8 ?_
  refine z_specN (host := RX10) (A' := 39) (B' := 1520) (i := 1) (σ' := zS0) (rest := [.ref 1, .ref 0]) (dl' := zE_4) (pc := 9) hG hPx (List.mem_of_getElem? (i := 0) rfl) 2 [] (ti_X9_init_1 hl0) zy_X9_init rfl w39 dX10_init_9 rfl (Nat.le_of_ble_eq_true rfl) (by decide +kernel) (by decide +kernel) rfl rfl rfl rfl (Nat.le_of_ble_eq_true rfl) rfl ?_
  refine z_putrF (pc := 12) hG hnam zc_X10 inX10 tyX10 tyX10_ok nmX10 (i := 0) (fl := [(3, 0), (3, 0), (3, 0), (3, 0), (3, 0), (3, 0), (3, 0), (3, 0), (3, 0), (3, 0), (3, 0), (0, 0), (0, 0)]) (q := (1, 1)) (by decide +kernel) 0 (by decide) (by decide) rfl (fun _ => rfl) w279 rfl rfl (fun _ => rfl) (fun _ => rfl) (dl' := zE_5) rfl dX10_init_12 ?_
  refine z_aload_n (pc := 15) hG 0 rfl rfl dX10_init_15 ?_
  refine z_new (A' := 38) (B' := 1509) (fl := [(0, 0), (3, 0), (3, 0), (3, 0), (3, 0), (3, 0), (0, 0), (0, 0), (3, 0), (0, 0), (3, 0)]) (pc := 16) hG zc_X6 inX6 tyX6 tyX6_ok w52 w53 w3 (i := 3) (by decide +kernel) (by decide) (by decide +kernel) (fun _ => rfl) rfl (by decide +kernel) rfl rfl (dl' := zE_6) rfl rfl rfl dX10_init_16 ?_
  refine z_dup (pc := 19) hG rfl dX10_init_19 ?_
  refine z_specN (host := RX10) (A' := 31) (B' := 1389) (i := 3) (σ' := (zi zS0 3 6 (-1 : Int32))) (rest := [.ref 3, .ref 0]) (dl' := zE_20) (pc := 20) hG hPx (List.mem_of_getElem? (i := 1) rfl) 4 [] (ti_X6_init_3 hl0) zy_X6_init rfl w55 dX10_init_20 rfl (Nat.le_of_ble_eq_true rfl) (by decide +kernel) (by decide +kernel) rfl rfl rfl rfl (Nat.le_of_ble_eq_true rfl) rfl ?_
  refine z_putrF (pc := 23) hG hnam zc_X10 inX10 tyX10 tyX10_ok nmX10 (i := 0) (fl := [(1, 1), (3, 0), (3, 0), (3, 0), (3, 0), (3, 0), (3, 0), (3, 0), (3, 0), (3, 0), (3, 0), (0, 0), (0, 0)]) (q := (1, 3)) (by decide +kernel) 1 (by decide) (by decide) rfl (fun _ => rfl) w280 rfl rfl (fun _ => rfl) (fun _ => rfl) (dl' := zE_21) rfl dX10_init_23 ?_
  refine z_aload_n (pc := 26) hG 0 rfl rfl dX10_init_26 ?_
  refine z_new (A' := 30) (B' := 1378) (fl := [(0, 0), (3, 0), (3, 0), (3, 0), (3, 0), (3, 0), (0, 0), (0, 0), (3, 0), (0, 0), (3, 0)]) (pc := 27) hG zc_X6 inX6 tyX6 tyX6_ok w52 w53 w3 (i := 11) (by decide +kernel) (by decide) (by decide +kernel) (fun _ => rfl) rfl (by decide +kernel) rfl rfl (dl' := zE_22) rfl rfl rfl dX10_init_27 ?_
  refine z_dup (pc := 30) hG rfl dX10_init_30 ?_
  refine z_specN (host := RX10) (A' := 23) (B' := 1258) (i := 11) (σ' := (zi (zi zS0 3 6 (-1 : Int32)) 11 6 (-1 : Int32))) (rest := [.ref 11, .ref 0]) (dl' := zE_36) (pc := 31) hG hPx (List.mem_of_getElem? (i := 1) rfl) 12 [] (ti_X6_init_11 hl0) zy_X6_init rfl w55 dX10_init_31 rfl (Nat.le_of_ble_eq_true rfl) (by decide +kernel) (by decide +kernel) rfl rfl rfl rfl (Nat.le_of_ble_eq_true rfl) rfl ?_
  refine z_putrF (pc := 34) hG hnam zc_X10 inX10 tyX10 tyX10_ok nmX10 (i := 0) (fl := [(1, 1), (1, 3), (3, 0), (3, 0), (3, 0), (3, 0), (3, 0), (3, 0), (3, 0), (3, 0), (3, 0), (0, 0), (0, 0)]) (q := (1, 11)) (by decide +kernel) 2 (by decide) (by decide) rfl (fun _ => rfl) w281 rfl rfl (fun _ => rfl) (fun _ => rfl) (dl' := zE_37) rfl dX10_init_34 ?_
  refine z_aload_n (pc := 37) hG 0 rfl rfl dX10_init_37 ?_
  refine z_new (A' := 22) (B' := 1253) (fl := [(3, 0), (3, 0), (0, 0), (0, 0), (0, 0)]) (pc := 38) hG zc_X7 inX7 tyX7 tyX7_ok w122 w123 w4 (i := 19) (by decide +kernel) (by decide) (by decide +kernel) (fun _ => rfl) rfl (by decide +kernel) rfl rfl (dl' := zE_38) rfl rfl rfl dX10_init_38 ?_
  refine z_dup (pc := 41) hG rfl dX10_init_41 ?_
  refine z_aload_n (pc := 42) hG 0 rfl rfl dX10_init_42 ?_
  refine z_getr (pc := 43) hG zc_X10 inX10 (i := 0) (fl := [(1, 1), (1, 3), (1, 11), (3, 0), (3, 0), (3, 0), (3, 0), (3, 0), (3, 0), (3, 0), (3, 0), (0, 0), (0, 0)]) (by decide +kernel) 0 rfl (by decide) rfl w279 dX10_init_43 ?_
  refine z_aload_n (pc := 46) hG 0 rfl rfl dX10_init_46 ?_
  refine z_getr (pc := 47) hG zc_X10 inX10 (i := 0) (fl := [(1, 1), (1, 3), (1, 11), (3, 0), (3, 0), (3, 0), (3, 0), (3, 0), (3, 0), (3, 0), (3, 0), (0, 0), (0, 0)]) (by decide +kernel) 2 rfl (by decide) rfl w281 dX10_init_47 ?_
  refine z_spec (A' := 22) (B' := 1253) (i := 19) (σ' := (zi (zi zS0 3 6 (-1 : Int32)) 11 6 (-1 : Int32))) (rest := [.ref 19, .ref 0]) (dl' := zE_40) (pc := 50) hG 20 [.ref 1, .ref 11] (ti_X7_init_19 hl0) zy_X7_init rfl w125 w124 dX10_init_50 rfl (Nat.le_of_ble_eq_true rfl) (by decide +kernel) (by decide +kernel) rfl rfl rfl rfl (Nat.le_of_ble_eq_true rfl) rfl ?_
  refine z_putrF (pc := 53) hG hnam zc_X10 inX10 tyX10 tyX10_ok nmX10 (i := 0) (fl := [(1, 1), (1, 3), (1, 11), (3, 0), (3, 0), (3, 0), (3, 0), (3, 0), (3, 0), (3, 0), (3, 0), (0, 0), (0, 0)]) (q := (1, 19)) (by decide +kernel) 3 (by decide) (by decide) rfl (fun _ => rfl) w282 rfl rfl (fun _ => rfl) (fun _ => rfl) (dl' := zE_41) rfl dX10_init_53 ?_
  refine z_aload_n (pc := 56) hG 0 rfl rfl dX10_init_56 ?_
  refine z_new (A' := 21) (B' := 1246) (fl := [(3, 0), (3, 0), (3, 0), (3, 0), (3, 0), (3, 0), (0, 0)]) (pc := 57) hG zc_X5 inX5 tyX5 tyX5_ok w144 w145 w5 (i := 20) (by decide +kernel) (by decide) (by decide +kernel) (fun _ => rfl) rfl (by decide +kernel) rfl rfl (dl' := zE_42) rfl rfl rfl dX10_init_57 ?_
  refine z_dup (pc := 60) hG rfl dX10_init_60 ?_
  refine z_aload_n (pc := 61) hG 0 rfl rfl dX10_init_61 ?_
  refine z_getr (pc := 62) hG zc_X10 inX10 (i := 0) (fl := [(1, 1), (1, 3), (1, 11), (1, 19), (3, 0), (3, 0), (3, 0), (3, 0), (3, 0), (3, 0), (3, 0), (0, 0), (0, 0)]) (by decide +kernel) 1 rfl (by decide) rfl w280 dX10_init_62 ?_
  refine z_spec (A' := 16) (B' := 1024) (i := 20) (σ' := (zi (zi zS0 3 6 (-1 : Int32)) 11 6 (-1 : Int32))) (rest := [.ref 20, .ref 0]) (dl' := zE_54) (pc := 65) hG 21 [.ref 3] (ti_X5_init_20 hl0) zy_X5_init rfl w147 w146 dX10_init_65 rfl (Nat.le_of_ble_eq_true rfl) (by decide +kernel) (by decide +kernel) rfl rfl rfl rfl (Nat.le_of_ble_eq_true rfl) rfl ?_
  refine z_putrF (pc := 68) hG hnam zc_X10 inX10 tyX10 tyX10_ok nmX10 (i := 0) (fl := [(1, 1), (1, 3), (1, 11), (1, 19), (3, 0), (3, 0), (3, 0), (3, 0), (3, 0), (3, 0), (3, 0), (0, 0), (0, 0)]) (q := (1, 20)) (by decide +kernel) 4 (by decide) (by decide) rfl (fun _ => rfl) w283 rfl rfl (fun _ => rfl) (fun _ => rfl) (dl' := zE_55) rfl dX10_init_68 ?_
  refine z_aload_n (pc := 71) hG 0 rfl rfl dX10_init_71 ?_
  refine z_new (A' := 15) (B' := 1016) (fl := [(3, 0), (3, 0), (3, 0), (0, 0), (0, 0), (3, 0), (3, 0), (3, 0)]) (pc := 72) hG zc_X0 inX0 tyX0 tyX0_ok w175 w176 w6 (i := 26) (by decide +kernel) (by decide) (by decide +kernel) (fun _ => rfl) rfl (by decide +kernel) rfl rfl (dl' := zE_56) rfl rfl rfl dX10_init_72 ?_
  refine z_dup (pc := 75) hG rfl dX10_init_75 ?_
  refine z_aload_n (pc := 76) hG 0 rfl rfl dX10_init_76 ?_
  refine z_getr (pc := 77) hG zc_X10 inX10 (i := 0) (fl := [(1, 1), (1, 3), (1, 11), (1, 19), (1, 20), (3, 0), (3, 0), (3, 0), (3, 0), (3, 0), (3, 0), (0, 0), (0, 0)]) (by decide +kernel) 1 rfl (by decide) rfl w280 dX10_init_77 ?_
  refine z_aload_n (pc := 80) hG 0 rfl rfl dX10_init_80 ?_
  refine z_getr (pc := 81) hG zc_X10 inX10 (i := 0) (fl := [(1, 1), (1, 3), (1, 11), (1, 19), (1, 20), (3, 0), (3, 0), (3, 0), (3, 0), (3, 0), (3, 0), (0, 0), (0, 0)]) (by decide +kernel) 4 rfl (by decide) rfl w283 dX10_init_81 ?_
  refine z_spec (A' := 11) (B' := 916) (i := 26) (σ' := (zi (zi zS0 3 6 (-1 : Int32)) 11 6 (-1 : Int32))) (rest := [.ref 26, .ref 0]) (dl' := zE_66) (pc := 84) hG 27 [.ref 3, .ref 20] (ti_X0_init_26 hl0) zy_X0_init rfl w178 w177 dX10_init_84 rfl (Nat.le_of_ble_eq_true rfl) (by decide +kernel) (by decide +kernel) rfl rfl rfl rfl (Nat.le_of_ble_eq_true rfl) rfl ?_
  refine z_putrF (pc := 87) hG hnam zc_X10 inX10 tyX10 tyX10_ok nmX10 (i := 0) (fl := [(1, 1), (1, 3), (1, 11), (1, 19), (1, 20), (3, 0), (3, 0), (3, 0), (3, 0), (3, 0), (3, 0), (0, 0), (0, 0)]) (q := (1, 26)) (by decide +kernel) 5 (by decide) (by decide) rfl (fun _ => rfl) w284 rfl rfl (fun _ => rfl) (fun _ => rfl) (dl' := zE_67) rfl dX10_init_87 ?_
  refine z_aload_n (pc := 90) hG 0 rfl rfl dX10_init_90 ?_
  refine z_new (A' := 10) (B' := 912) (fl := [(3, 0), (0, 0), (0, 0), (3, 0)]) (pc := 91) hG zc_X8 inX8 tyX8 tyX8_ok w206 w207 w7 (i := 31) (by decide +kernel) (by decide) (by decide +kernel) (fun _ => rfl) rfl (by decide +kernel) rfl rfl (dl' := zE_68) rfl rfl rfl dX10_init_91 ?_
  refine z_dup (pc := 94) hG rfl dX10_init_94 ?_
  refine z_specN (host := RX10) (A' := 8) (B' := 216) (i := 31) (σ' := (zi (zi zS0 3 6 (-1 : Int32)) 11 6 (-1 : Int32))) (rest := [.ref 31, .ref 0]) (dl' := zE_72) (pc := 95) hG hPx (List.mem_of_getElem? (i := 2) rfl) 32 [] (ti_X8_init_31 hl0) zy_X8_init rfl w209 dX10_init_95 rfl (Nat.le_of_ble_eq_true rfl) (by decide +kernel) (by decide +kernel) rfl rfl rfl rfl (Nat.le_of_ble_eq_true rfl) rfl ?_
  refine z_putrF (pc := 98) hG hnam zc_X10 inX10 tyX10 tyX10_ok nmX10 (i := 0) (fl := [(1, 1), (1, 3), (1, 11), (1, 19), (1, 20), (1, 26), (3, 0), (3, 0), (3, 0), (3, 0), (3, 0), (0, 0), (0, 0)]) (q := (1, 31)) (by decide +kernel) 6 (by decide) (by decide) rfl (fun _ => rfl) w285 rfl rfl (fun _ => rfl) (fun _ => rfl) (dl' := zE_73) rfl dX10_init_98 ?_
  refine z_aload_n (pc := 101) hG 0 rfl rfl dX10_init_101 ?_
  refine z_new (A' := 7) (B' := 210) (fl := [(3, 0), (3, 0), (3, 0), (3, 0), (3, 0), (0, 0)]) (pc := 102) hG zc_X2 inX2 tyX2 tyX2_ok w232 w233 w8 (i := 34) (by decide +kernel) (by decide) (by decide +kernel) (fun _ => rfl) rfl (by decide +kernel) rfl rfl (dl' := zE_74) rfl rfl rfl dX10_init_102 ?_
  refine z_dup (pc := 105) hG rfl dX10_init_105 ?_
  refine z_aload_n (pc := 106) hG 0 rfl rfl dX10_init_106 ?_
  refine z_getr (pc := 107) hG zc_X10 inX10 (i := 0) (fl := [(1, 1), (1, 3), (1, 11), (1, 19), (1, 20), (1, 26), (1, 31), (3, 0), (3, 0), (3, 0), (3, 0), (0, 0), (0, 0)]) (by decide +kernel) 1 rfl (by decide) rfl w280 dX10_init_107 ?_
  refine z_aload_n (pc := 110) hG 0 rfl rfl dX10_init_110 ?_
  refine z_getr (pc := 111) hG zc_X10 inX10 (i := 0) (fl := [(1, 1), (1, 3), (1, 11), (1, 19), (1, 20), (1, 26), (1, 31), (3, 0), (3, 0), (3, 0), (3, 0), (0, 0), (0, 0)]) (by decide +kernel) 4 rfl (by decide) rfl w283 dX10_init_111 ?_
  refine z_aload_n (pc := 114) hG 0 rfl rfl dX10_init_114 ?_
  refine z_getr (pc := 115) hG zc_X10 inX10 (i := 0) (fl := [(1, 1), (1, 3), (1, 11), (1, 19), (1, 20), (1, 26), (1, 31), (3, 0), (3, 0), (3, 0), (3, 0), (0, 0), (0, 0)]) (by decide +kernel) 6 rfl (by decide) rfl w285 dX10_init_115 ?_
  refine z_spec (A' := 5) (B' := 130) (i := 34) (σ' := (zi (zi zS0 3 6 (-1 : Int32)) 11 6 (-1 : Int32))) (rest := [.ref 34, .ref 0]) (dl' := zE_81) (pc := 118) hG 35 [.ref 3, .ref 20, .ref 31] (ti_X2_init_34 hl0) zy_X2_init rfl w235 w234 dX10_init_118 rfl (Nat.le_of_ble_eq_true rfl) (by decide +kernel) (by decide +kernel) rfl rfl rfl rfl (Nat.le_of_ble_eq_true rfl) rfl ?_
  refine z_putrF (pc := 121) hG hnam zc_X10 inX10 tyX10 tyX10_ok nmX10 (i := 0) (fl := [(1, 1), (1, 3), (1, 11), (1, 19), (1, 20), (1, 26), (1, 31), (3, 0), (3, 0), (3, 0), (3, 0), (0, 0), (0, 0)]) (q := (1, 34)) (by decide +kernel) 7 (by decide) (by decide) rfl (fun _ => rfl) w286 rfl rfl (fun _ => rfl) (fun _ => rfl) (dl' := zE_82) rfl dX10_init_121 ?_
  refine z_aload_n (pc := 124) hG 0 rfl rfl dX10_init_124 ?_
  refine z_new (A' := 4) (B' := 125) (fl := [(3, 0), (3, 0), (3, 0), (3, 0), (3, 0)]) (pc := 125) hG zc_X4 inX4 tyX4 tyX4_ok w257 w258 w9 (i := 37) (by decide +kernel) (by decide) (by decide +kernel) (fun _ => rfl) rfl (by decide +kernel) rfl rfl (dl' := zE_83) rfl rfl rfl dX10_init_125 ?_
  refine z_dup (pc := 128) hG rfl dX10_init_128 ?_
  refine z_aload_n (pc := 129) hG 0 rfl rfl dX10_init_129 ?_
  refine z_getr (pc := 130) hG zc_X10 inX10 (i := 0) (fl := [(1, 1), (1, 3), (1, 11), (1, 19), (1, 20), (1, 26), (1, 31), (1, 34), (3, 0), (3, 0), (3, 0), (0, 0), (0, 0)]) (by decide +kernel) 1 rfl (by decide) rfl w280 dX10_init_130 ?_
  refine z_aload_n (pc := 133) hG 0 rfl rfl dX10_init_133 ?_
  refine z_getr (pc := 134) hG zc_X10 inX10 (i := 0) (fl := [(1, 1), (1, 3), (1, 11), (1, 19), (1, 20), (1, 26), (1, 31), (1, 34), (3, 0), (3, 0), (3, 0), (0, 0), (0, 0)]) (by decide +kernel) 4 rfl (by decide) rfl w283 dX10_init_134 ?_
  refine z_aload_n (pc := 137) hG 0 rfl rfl dX10_init_137 ?_
  refine z_getr (pc := 138) hG zc_X10 inX10 (i := 0) (fl := [(1, 1), (1, 3), (1, 11), (1, 19), (1, 20), (1, 26), (1, 31), (1, 34), (3, 0), (3, 0), (3, 0), (0, 0), (0, 0)]) (by decide +kernel) 6 rfl (by decide) rfl w285 dX10_init_138 ?_
  refine z_spec (A' := 2) (B' := 45) (i := 37) (σ' := (zi (zi zS0 3 6 (-1 : Int32)) 11 6 (-1 : Int32))) (rest := [.ref 37, .ref 0]) (dl' := zE_90) (pc := 141) hG 38 [.ref 3, .ref 20, .ref 31] (ti_X4_init_37 hl0) zy_X4_init rfl w260 w259 dX10_init_141 rfl (Nat.le_of_ble_eq_true rfl) (by decide +kernel) (by decide +kernel) rfl rfl rfl rfl (Nat.le_of_ble_eq_true rfl) rfl ?_
  refine z_putrF (pc := 144) hG hnam zc_X10 inX10 tyX10 tyX10_ok nmX10 (i := 0) (fl := [(1, 1), (1, 3), (1, 11), (1, 19), (1, 20), (1, 26), (1, 31), (1, 34), (3, 0), (3, 0), (3, 0), (0, 0), (0, 0)]) (q := (1, 37)) (by decide +kernel) 8 (by decide) (by decide) rfl (fun _ => rfl) w287 rfl rfl (fun _ => rfl) (fun _ => rfl) (dl' := zE_91) rfl dX10_init_144 ?_
  refine z_aload_n (pc := 147) hG 0 rfl rfl dX10_init_147 ?_
  refine z_bipush (pc := 148) hG kb_40 dX10_init_148 ?_
  refine z_newa (A' := 1) (B' := 5) (atype := .int) (t := 0) (N := 40) (z := (40, .inl (fun _ => 0))) (pc := 150) hG wa_int rfl (fun _ => rfl) rfl (fun _ _ => Iff.rfl) (i := 40) (by decide +kernel) (by decide) (by decide +kernel) (fun _ _ => rfl) (fun _ => rfl) (by decide) rfl (Nat.le_of_ble_eq_true rfl) rfl rfl (dl' := zE_92) rfl rfl rfl dX10_init_150 ?_
  refine z_putrF (pc := 152) hG hnam zc_X10 inX10 tyX10 tyX10_ok nmX10 (i := 0) (fl := [(1, 1), (1, 3), (1, 11), (1, 19), (1, 20), (1, 26), (1, 31), (1, 34), (1, 37), (3, 0), (3, 0), (0, 0), (0, 0)]) (q := (1, 40)) (by decide +kernel) 9 (by decide) (by decide) rfl (fun _ => rfl) w288 rfl rfl (fun _ => rfl) (fun _ => rfl) (dl' := zE_93) rfl dX10_init_152 ?_
  refine z_aload_n (pc := 155) hG 0 rfl rfl dX10_init_155 ?_
  refine z_iconst (pc := 156) hG kc_5 dX10_init_156 ?_
  refine z_newa (A' := 0) (B' := 0) (atype := .byte) (t := 1) (N := 5) (z := (5, .inl (fun _ => 0))) (pc := 157) hG wa_byte rfl (fun _ => rfl) rfl (fun _ _ => Iff.rfl) (i := 41) (by decide +kernel) (by decide) (by decide +kernel) (fun _ _ => rfl) (fun _ => rfl) (by decide) rfl (Nat.le_of_ble_eq_true rfl) rfl rfl (dl' := zE_94) rfl rfl rfl dX10_init_157 ?_
  refine z_putrF (pc := 159) hG hnam zc_X10 inX10 tyX10 tyX10_ok nmX10 (i := 0) (fl := [(1, 1), (1, 3), (1, 11), (1, 19), (1, 20), (1, 26), (1, 31), (1, 34), (1, 37), (1, 40), (3, 0), (0, 0), (0, 0)]) (q := (1, 41)) (by decide +kernel) 10 (by decide) (by decide) rfl (fun _ => rfl) w289 rfl rfl (fun _ => rfl) (fun _ => rfl) (dl' := zE_95) rfl dX10_init_159 ?_
  refine z_aload_n (pc := 162) hG 0 rfl rfl dX10_init_162 ?_
  refine z_iconst (pc := 163) hG kc_0 dX10_init_163 ?_
  refine z_puti (pc := 164) hG zc_X10 inX10 tyX10 tyX10_ok nmX10 (i := 0) (fl := [(1, 1), (1, 3), (1, 11), (1, 19), (1, 20), (1, 26), (1, 31), (1, 34), (1, 37), (1, 40), (1, 41), (0, 0), (0, 0)]) (by decide +kernel) 11 rfl (by decide) rfl w290 rfl rfl rfl dX10_init_164 ?_
  refine z_aload_n (pc := 167) hG 0 rfl rfl dX10_init_167 ?_
  refine z_iconst (pc := 168) hG kc_m1 dX10_init_168 ?_
  refine z_puti (pc := 169) hG zc_X10 inX10 tyX10 tyX10_ok nmX10 (i := 0) (fl := [(1, 1), (1, 3), (1, 11), (1, 19), (1, 20), (1, 26), (1, 31), (1, 34), (1, 37), (1, 40), (1, 41), (0, 0), (0, 0)]) (by decide +kernel) 12 rfl (by decide) rfl w291 rfl rfl rfl dX10_init_169 ?_
  exact z_vret (pc := 172) hG rfl hk dX10_init_172
def zE_96 : List zDs := zE_95 ++ [.inl (9, [(0, 0), (3, 0), (0, 0), (0, 0), (0, 0), (0, 0), (0, 0), (0, 0), (0, 0), (0, 0), (3, 0), (3, 0), (3, 0), (3, 0), (3, 0), (3, 0), (0, 0), (0, 0), (0, 0), (0, 0), (3, 0), (3, 0), (3, 0), (3, 0), (3, 0), (3, 0), (3, 0), (3, 0), (3, 0), (0, 0), (3, 0), (3, 0), (0, 0), (3, 0), (3, 0), (3, 0), (0, 0), (3, 0), (3, 0), (3, 0), (3, 0), (3, 0), (0, 0), (3, 0), (3, 0), (3, 0), (0, 0)])]
def zE_97 : List zDs := zE_96 ++ [.inr (0, 400)]
def zE_98 : List zDs := zE_97.set 42 (.inl (9, [(0, 0), (1, 43), (0, 0), (0, 0), (0, 0), (0, 0), (0, 0), (0, 0), (0, 0), (0, 0), (3, 0), (3, 0), (3, 0), (3, 0), (3, 0), (3, 0), (0, 0), (0, 0), (0, 0), (0, 0), (3, 0), (3, 0), (3, 0), (3, 0), (3, 0), (3, 0), (3, 0), (3, 0), (3, 0), (0, 0), (3, 0), (3, 0), (0, 0), (3, 0), (3, 0), (3, 0), (0, 0), (3, 0), (3, 0), (3, 0), (3, 0), (3, 0), (0, 0), (3, 0), (3, 0), (3, 0), (0, 0)]))
def zE_99 : List zDs := zE_98 ++ [.inr (3, 5)]
def zE_100 : List zDs := zE_99.set 42 (.inl (9, [(0, 0), (1, 43), (0, 0), (0, 0), (0, 0), (0, 0), (0, 0), (0, 0), (0, 0), (0, 0), (1, 44), (3, 0), (3, 0), (3, 0), (3, 0), (3, 0), (0, 0), (0, 0), (0, 0), (0, 0), (3, 0), (3, 0), (3, 0), (3, 0), (3, 0), (3, 0), (3, 0), (3, 0), (3, 0), (0, 0), (3, 0), (3, 0), (0, 0), (3, 0), (3, 0), (3, 0), (0, 0), (3, 0), (3, 0), (3, 0), (3, 0), (3, 0), (0, 0), (3, 0), (3, 0), (3, 0), (0, 0)]))
def zE_101 : List zDs := zE_100 ++ [.inr (0, 5)]
def zE_102 : List zDs := zE_101.set 42 (.inl (9, [(0, 0), (1, 43), (0, 0), (0, 0), (0, 0), (0, 0), (0, 0), (0, 0), (0, 0), (0, 0), (1, 44), (1, 45), (3, 0), (3, 0), (3, 0), (3, 0), (0, 0), (0, 0), (0, 0), (0, 0), (3, 0), (3, 0), (3, 0), (3, 0), (3, 0), (3, 0), (3, 0), (3, 0), (3, 0), (0, 0), (3, 0), (3, 0), (0, 0), (3, 0), (3, 0), (3, 0), (0, 0), (3, 0), (3, 0), (3, 0), (3, 0), (3, 0), (0, 0), (3, 0), (3, 0), (3, 0), (0, 0)]))
def zE_103 : List zDs := zE_102 ++ [.inr (0, 5)]
def zE_104 : List zDs := zE_103.set 42 (.inl (9, [(0, 0), (1, 43), (0, 0), (0, 0), (0, 0), (0, 0), (0, 0), (0, 0), (0, 0), (0, 0), (1, 44), (1, 45), (1, 46), (3, 0), (3, 0), (3, 0), (0, 0), (0, 0), (0, 0), (0, 0), (3, 0), (3, 0), (3, 0), (3, 0), (3, 0), (3, 0), (3, 0), (3, 0), (3, 0), (0, 0), (3, 0), (3, 0), (0, 0), (3, 0), (3, 0), (3, 0), (0, 0), (3, 0), (3, 0), (3, 0), (3, 0), (3, 0), (0, 0), (3, 0), (3, 0), (3, 0), (0, 0)]))
def zE_105 : List zDs := zE_104 ++ [.inr (2, 5)]
def zE_106 : List zDs := zE_105.set 42 (.inl (9, [(0, 0), (1, 43), (0, 0), (0, 0), (0, 0), (0, 0), (0, 0), (0, 0), (0, 0), (0, 0), (1, 44), (1, 45), (1, 46), (1, 47), (3, 0), (3, 0), (0, 0), (0, 0), (0, 0), (0, 0), (3, 0), (3, 0), (3, 0), (3, 0), (3, 0), (3, 0), (3, 0), (3, 0), (3, 0), (0, 0), (3, 0), (3, 0), (0, 0), (3, 0), (3, 0), (3, 0), (0, 0), (3, 0), (3, 0), (3, 0), (3, 0), (3, 0), (0, 0), (3, 0), (3, 0), (3, 0), (0, 0)]))
def zE_107 : List zDs := zE_106 ++ [.inr (0, 30)]
def zE_108 : List zDs := zE_107.set 42 (.inl (9, [(0, 0), (1, 43), (0, 0), (0, 0), (0, 0), (0, 0), (0, 0), (0, 0), (0, 0), (0, 0), (1, 44), (1, 45), (1, 46), (1, 47), (1, 48), (3, 0), (0, 0), (0, 0), (0, 0), (0, 0), (3, 0), (3, 0), (3, 0), (3, 0), (3, 0), (3, 0), (3, 0), (3, 0), (3, 0), (0, 0), (3, 0), (3, 0), (0, 0), (3, 0), (3, 0), (3, 0), (0, 0), (3, 0), (3, 0), (3, 0), (3, 0), (3, 0), (0, 0), (3, 0), (3, 0), (3, 0), (0, 0)]))
def zE_109 : List zDs := zE_108 ++ [.inr (0, 200)]
def zE_110 : List zDs := zE_109.set 42 (.inl (9, [(0, 0), (1, 43), (0, 0), (0, 0), (0, 0), (0, 0), (0, 0), (0, 0), (0, 0), (0, 0), (1, 44), (1, 45), (1, 46), (1, 47), (1, 48), (1, 49), (0, 0), (0, 0), (0, 0), (0, 0), (3, 0), (3, 0), (3, 0), (3, 0), (3, 0), (3, 0), (3, 0), (3, 0), (3, 0), (0, 0), (3, 0), (3, 0), (0, 0), (3, 0), (3, 0), (3, 0), (0, 0), (3, 0), (3, 0), (3, 0), (3, 0), (3, 0), (0, 0), (3, 0), (3, 0), (3, 0), (0, 0)]))
def zE_111 : List zDs := zE_110 ++ [.inr (3, 5)]
def zE_112 : List zDs := zE_111.set 42 (.inl (9, [(0, 0), (1, 43), (0, 0), (0, 0), (0, 0), (0, 0), (0, 0), (0, 0), (0, 0), (0, 0), (1, 44), (1, 45), (1, 46), (1, 47), (1, 48), (1, 49), (0, 0), (0, 0), (0, 0), (0, 0), (1, 50), (3, 0), (3, 0), (3, 0), (3, 0), (3, 0), (3, 0), (3, 0), (3, 0), (0, 0), (3, 0), (3, 0), (0, 0), (3, 0), (3, 0), (3, 0), (0, 0), (3, 0), (3, 0), (3, 0), (3, 0), (3, 0), (0, 0), (3, 0), (3, 0), (3, 0), (0, 0)]))
def zE_113 : List zDs := zE_112 ++ [.inr (0, 5)]
def zE_114 : List zDs := zE_113.set 42 (.inl (9, [(0, 0), (1, 43), (0, 0), (0, 0), (0, 0), (0, 0), (0, 0), (0, 0), (0, 0), (0, 0), (1, 44), (1, 45), (1, 46), (1, 47), (1, 48), (1, 49), (0, 0), (0, 0), (0, 0), (0, 0), (1, 50), (1, 51), (3, 0), (3, 0), (3, 0), (3, 0), (3, 0), (3, 0), (3, 0), (0, 0), (3, 0), (3, 0), (0, 0), (3, 0), (3, 0), (3, 0), (0, 0), (3, 0), (3, 0), (3, 0), (3, 0), (3, 0), (0, 0), (3, 0), (3, 0), (3, 0), (0, 0)]))
def zE_115 : List zDs := zE_114 ++ [.inr (0, 5)]
def zE_116 : List zDs := zE_115.set 42 (.inl (9, [(0, 0), (1, 43), (0, 0), (0, 0), (0, 0), (0, 0), (0, 0), (0, 0), (0, 0), (0, 0), (1, 44), (1, 45), (1, 46), (1, 47), (1, 48), (1, 49), (0, 0), (0, 0), (0, 0), (0, 0), (1, 50), (1, 51), (1, 52), (3, 0), (3, 0), (3, 0), (3, 0), (3, 0), (3, 0), (0, 0), (3, 0), (3, 0), (0, 0), (3, 0), (3, 0), (3, 0), (0, 0), (3, 0), (3, 0), (3, 0), (3, 0), (3, 0), (0, 0), (3, 0), (3, 0), (3, 0), (0, 0)]))
def zE_117 : List zDs := zE_116 ++ [.inr (2, 5)]
def zE_118 : List zDs := zE_117.set 42 (.inl (9, [(0, 0), (1, 43), (0, 0), (0, 0), (0, 0), (0, 0), (0, 0), (0, 0), (0, 0), (0, 0), (1, 44), (1, 45), (1, 46), (1, 47), (1, 48), (1, 49), (0, 0), (0, 0), (0, 0), (0, 0), (1, 50), (1, 51), (1, 52), (1, 53), (3, 0), (3, 0), (3, 0), (3, 0), (3, 0), (0, 0), (3, 0), (3, 0), (0, 0), (3, 0), (3, 0), (3, 0), (0, 0), (3, 0), (3, 0), (3, 0), (3, 0), (3, 0), (0, 0), (3, 0), (3, 0), (3, 0), (0, 0)]))
def zE_119 : List zDs := zE_118 ++ [.inr (0, 30)]
def zE_120 : List zDs := zE_119.set 42 (.inl (9, [(0, 0), (1, 43), (0, 0), (0, 0), (0, 0), (0, 0), (0, 0), (0, 0), (0, 0), (0, 0), (1, 44), (1, 45), (1, 46), (1, 47), (1, 48), (1, 49), (0, 0), (0, 0), (0, 0), (0, 0), (1, 50), (1, 51), (1, 52), (1, 53), (1, 54), (3, 0), (3, 0), (3, 0), (3, 0), (0, 0), (3, 0), (3, 0), (0, 0), (3, 0), (3, 0), (3, 0), (0, 0), (3, 0), (3, 0), (3, 0), (3, 0), (3, 0), (0, 0), (3, 0), (3, 0), (3, 0), (0, 0)]))
def zE_121 : List zDs := zE_120 ++ [.inr (0, 200)]
def zE_122 : List zDs := zE_121.set 42 (.inl (9, [(0, 0), (1, 43), (0, 0), (0, 0), (0, 0), (0, 0), (0, 0), (0, 0), (0, 0), (0, 0), (1, 44), (1, 45), (1, 46), (1, 47), (1, 48), (1, 49), (0, 0), (0, 0), (0, 0), (0, 0), (1, 50), (1, 51), (1, 52), (1, 53), (1, 54), (1, 55), (3, 0), (3, 0), (3, 0), (0, 0), (3, 0), (3, 0), (0, 0), (3, 0), (3, 0), (3, 0), (0, 0), (3, 0), (3, 0), (3, 0), (3, 0), (3, 0), (0, 0), (3, 0), (3, 0), (3, 0), (0, 0)]))
def zE_123 : List zDs := zE_122 ++ [.inr (0, 3125)]
def zE_124 : List zDs := zE_123.set 42 (.inl (9, [(0, 0), (1, 43), (0, 0), (0, 0), (0, 0), (0, 0), (0, 0), (0, 0), (0, 0), (0, 0), (1, 44), (1, 45), (1, 46), (1, 47), (1, 48), (1, 49), (0, 0), (0, 0), (0, 0), (0, 0), (1, 50), (1, 51), (1, 52), (1, 53), (1, 54), (1, 55), (1, 56), (3, 0), (3, 0), (0, 0), (3, 0), (3, 0), (0, 0), (3, 0), (3, 0), (3, 0), (0, 0), (3, 0), (3, 0), (3, 0), (3, 0), (3, 0), (0, 0), (3, 0), (3, 0), (3, 0), (0, 0)]))
def zE_125 : List zDs := zE_124 ++ [.inr (2, 3125)]
def zE_126 : List zDs := zE_125.set 42 (.inl (9, [(0, 0), (1, 43), (0, 0), (0, 0), (0, 0), (0, 0), (0, 0), (0, 0), (0, 0), (0, 0), (1, 44), (1, 45), (1, 46), (1, 47), (1, 48), (1, 49), (0, 0), (0, 0), (0, 0), (0, 0), (1, 50), (1, 51), (1, 52), (1, 53), (1, 54), (1, 55), (1, 56), (1, 57), (3, 0), (0, 0), (3, 0), (3, 0), (0, 0), (3, 0), (3, 0), (3, 0), (0, 0), (3, 0), (3, 0), (3, 0), (3, 0), (3, 0), (0, 0), (3, 0), (3, 0), (3, 0), (0, 0)]))
def zE_127 : List zDs := zE_126 ++ [.inr (0, 5)]
def zE_128 : List zDs := zE_127.set 42 (.inl (9, [(0, 0), (1, 43), (0, 0), (0, 0), (0, 0), (0, 0), (0, 0), (0, 0), (0, 0), (0, 0), (1, 44), (1, 45), (1, 46), (1, 47), (1, 48), (1, 49), (0, 0), (0, 0), (0, 0), (0, 0), (1, 50), (1, 51), (1, 52), (1, 53), (1, 54), (1, 55), (1, 56), (1, 57), (1, 58), (0, 0), (3, 0), (3, 0), (0, 0), (3, 0), (3, 0), (3, 0), (0, 0), (3, 0), (3, 0), (3, 0), (3, 0), (3, 0), (0, 0), (3, 0), (3, 0), (3, 0), (0, 0)]))
def zE_129 : List zDs := zE_128 ++ [.inr (0, 150000)]
def zE_130 : List zDs := zE_129.set 42 (.inl (9, [(0, 0), (1, 43), (0, 0), (0, 0), (0, 0), (0, 0), (0, 0), (0, 0), (0, 0), (0, 0), (1, 44), (1, 45), (1, 46), (1, 47), (1, 48), (1, 49), (0, 0), (0, 0), (0, 0), (0, 0), (1, 50), (1, 51), (1, 52), (1, 53), (1, 54), (1, 55), (1, 56), (1, 57), (1, 58), (0, 0), (1, 59), (3, 0), (0, 0), (3, 0), (3, 0), (3, 0), (0, 0), (3, 0), (3, 0), (3, 0), (3, 0), (3, 0), (0, 0), (3, 0), (3, 0), (3, 0), (0, 0)]))
def zE_131 : List zDs := zE_130 ++ [.inr (0, 5)]
def zE_132 : List zDs := zE_131.set 42 (.inl (9, [(0, 0), (1, 43), (0, 0), (0, 0), (0, 0), (0, 0), (0, 0), (0, 0), (0, 0), (0, 0), (1, 44), (1, 45), (1, 46), (1, 47), (1, 48), (1, 49), (0, 0), (0, 0), (0, 0), (0, 0), (1, 50), (1, 51), (1, 52), (1, 53), (1, 54), (1, 55), (1, 56), (1, 57), (1, 58), (0, 0), (1, 59), (1, 60), (0, 0), (3, 0), (3, 0), (3, 0), (0, 0), (3, 0), (3, 0), (3, 0), (3, 0), (3, 0), (0, 0), (3, 0), (3, 0), (3, 0), (0, 0)]))
def zE_133 : List zDs := zE_132 ++ [.inr (0, 16)]
def zE_134 : List zDs := zE_133.set 42 (.inl (9, [(0, 0), (1, 43), (0, 0), (0, 0), (0, 0), (0, 0), (0, 0), (0, 0), (0, 0), (0, 0), (1, 44), (1, 45), (1, 46), (1, 47), (1, 48), (1, 49), (0, 0), (0, 0), (0, 0), (0, 0), (1, 50), (1, 51), (1, 52), (1, 53), (1, 54), (1, 55), (1, 56), (1, 57), (1, 58), (0, 0), (1, 59), (1, 60), (0, 0), (1, 61), (3, 0), (3, 0), (0, 0), (3, 0), (3, 0), (3, 0), (3, 0), (3, 0), (0, 0), (3, 0), (3, 0), (3, 0), (0, 0)]))
def zE_135 : List zDs := zE_134 ++ [.inr (0, 3200)]
def zE_136 : List zDs := zE_135.set 42 (.inl (9, [(0, 0), (1, 43), (0, 0), (0, 0), (0, 0), (0, 0), (0, 0), (0, 0), (0, 0), (0, 0), (1, 44), (1, 45), (1, 46), (1, 47), (1, 48), (1, 49), (0, 0), (0, 0), (0, 0), (0, 0), (1, 50), (1, 51), (1, 52), (1, 53), (1, 54), (1, 55), (1, 56), (1, 57), (1, 58), (0, 0), (1, 59), (1, 60), (0, 0), (1, 61), (1, 62), (3, 0), (0, 0), (3, 0), (3, 0), (3, 0), (3, 0), (3, 0), (0, 0), (3, 0), (3, 0), (3, 0), (0, 0)]))
def zE_137 : List zDs := zE_136 ++ [.inr (0, 5)]
def zE_138 : List zDs := zE_137.set 42 (.inl (9, [(0, 0), (1, 43), (0, 0), (0, 0), (0, 0), (0, 0), (0, 0), (0, 0), (0, 0), (0, 0), (1, 44), (1, 45), (1, 46), (1, 47), (1, 48), (1, 49), (0, 0), (0, 0), (0, 0), (0, 0), (1, 50), (1, 51), (1, 52), (1, 53), (1, 54), (1, 55), (1, 56), (1, 57), (1, 58), (0, 0), (1, 59), (1, 60), (0, 0), (1, 61), (1, 62), (1, 63), (0, 0), (3, 0), (3, 0), (3, 0), (3, 0), (3, 0), (0, 0), (3, 0), (3, 0), (3, 0), (0, 0)]))
def zE_139 : List zDs := zE_138 ++ [.inr (0, 40)]
def zE_140 : List zDs := zE_139.set 42 (.inl (9, [(0, 0), (1, 43), (0, 0), (0, 0), (0, 0), (0, 0), (0, 0), (0, 0), (0, 0), (0, 0), (1, 44), (1, 45), (1, 46), (1, 47), (1, 48), (1, 49), (0, 0), (0, 0), (0, 0), (0, 0), (1, 50), (1, 51), (1, 52), (1, 53), (1, 54), (1, 55), (1, 56), (1, 57), (1, 58), (0, 0), (1, 59), (1, 60), (0, 0), (1, 61), (1, 62), (1, 63), (0, 0), (1, 64), (3, 0), (3, 0), (3, 0), (3, 0), (0, 0), (3, 0), (3, 0), (3, 0), (0, 0)]))
def zE_141 : List zDs := zE_140 ++ [.inr (0, 40)]
def zE_142 : List zDs := zE_141.set 42 (.inl (9, [(0, 0), (1, 43), (0, 0), (0, 0), (0, 0), (0, 0), (0, 0), (0, 0), (0, 0), (0, 0), (1, 44), (1, 45), (1, 46), (1, 47), (1, 48), (1, 49), (0, 0), (0, 0), (0, 0), (0, 0), (1, 50), (1, 51), (1, 52), (1, 53), (1, 54), (1, 55), (1, 56), (1, 57), (1, 58), (0, 0), (1, 59), (1, 60), (0, 0), (1, 61), (1, 62), (1, 63), (0, 0), (1, 64), (1, 65), (3, 0), (3, 0), (3, 0), (0, 0), (3, 0), (3, 0), (3, 0), (0, 0)]))
def zE_143 : List zDs := zE_142 ++ [.inr (0, 40)]
def zE_144 : List zDs := zE_143.set 42 (.inl (9, [(0, 0), (1, 43), (0, 0), (0, 0), (0, 0), (0, 0), (0, 0), (0, 0), (0, 0), (0, 0), (1, 44), (1, 45), (1, 46), (1, 47), (1, 48), (1, 49), (0, 0), (0, 0), (0, 0), (0, 0), (1, 50), (1, 51), (1, 52), (1, 53), (1, 54), (1, 55), (1, 56), (1, 57), (1, 58), (0, 0), (1, 59), (1, 60), (0, 0), (1, 61), (1, 62), (1, 63), (0, 0), (1, 64), (1, 65), (1, 66), (3, 0), (3, 0), (0, 0), (3, 0), (3, 0), (3, 0), (0, 0)]))
def zE_145 : List zDs := zE_144 ++ [.inr (0, 40)]
def zE_146 : List zDs := zE_145.set 42 (.inl (9, [(0, 0), (1, 43), (0, 0), (0, 0), (0, 0), (0, 0), (0, 0), (0, 0), (0, 0), (0, 0), (1, 44), (1, 45), (1, 46), (1, 47), (1, 48), (1, 49), (0, 0), (0, 0), (0, 0), (0, 0), (1, 50), (1, 51), (1, 52), (1, 53), (1, 54), (1, 55), (1, 56), (1, 57), (1, 58), (0, 0), (1, 59), (1, 60), (0, 0), (1, 61), (1, 62), (1, 63), (0, 0), (1, 64), (1, 65), (1, 66), (1, 67), (3, 0), (0, 0), (3, 0), (3, 0), (3, 0), (0, 0)]))
def zE_147 : List zDs := zE_146 ++ [.inr (0, 40)]
def zE_148 : List zDs := zE_147.set 42 (.inl (9, [(0, 0), (1, 43), (0, 0), (0, 0), (0, 0), (0, 0), (0, 0), (0, 0), (0, 0), (0, 0), (1, 44), (1, 45), (1, 46), (1, 47), (1, 48), (1, 49), (0, 0), (0, 0), (0, 0), (0, 0), (1, 50), (1, 51), (1, 52), (1, 53), (1, 54), (1, 55), (1, 56), (1, 57), (1, 58), (0, 0), (1, 59), (1, 60), (0, 0), (1, 61), (1, 62), (1, 63), (0, 0), (1, 64), (1, 65), (1, 66), (1, 67), (1, 68), (0, 0), (3, 0), (3, 0), (3, 0), (0, 0)]))
def zE_149 : List zDs := zE_148 ++ [.inr (0, 40)]
def zE_150 : List zDs := zE_149.set 42 (.inl (9, [(0, 0), (1, 43), (0, 0), (0, 0), (0, 0), (0, 0), (0, 0), (0, 0), (0, 0), (0, 0), (1, 44), (1, 45), (1, 46), (1, 47), (1, 48), (1, 49), (0, 0), (0, 0), (0, 0), (0, 0), (1, 50), (1, 51), (1, 52), (1, 53), (1, 54), (1, 55), (1, 56), (1, 57), (1, 58), (0, 0), (1, 59), (1, 60), (0, 0), (1, 61), (1, 62), (1, 63), (0, 0), (1, 64), (1, 65), (1, 66), (1, 67), (1, 68), (0, 0), (1, 69), (3, 0), (3, 0), (0, 0)]))
def zE_151 : List zDs := zE_150 ++ [.inr (0, 40)]
def zE_152 : List zDs := zE_151.set 42 (.inl (9, [(0, 0), (1, 43), (0, 0), (0, 0), (0, 0), (0, 0), (0, 0), (0, 0), (0, 0), (0, 0), (1, 44), (1, 45), (1, 46), (1, 47), (1, 48), (1, 49), (0, 0), (0, 0), (0, 0), (0, 0), (1, 50), (1, 51), (1, 52), (1, 53), (1, 54), (1, 55), (1, 56), (1, 57), (1, 58), (0, 0), (1, 59), (1, 60), (0, 0), (1, 61), (1, 62), (1, 63), (0, 0), (1, 64), (1, 65), (1, 66), (1, 67), (1, 68), (0, 0), (1, 69), (1, 70), (3, 0), (0, 0)]))
def zE_153 : List zDs := zE_152 ++ [.inr (0, 5)]
def zE_154 : List zDs := zE_153.set 42 (.inl (9, [(0, 0), (1, 43), (0, 0), (0, 0), (0, 0), (0, 0), (0, 0), (0, 0), (0, 0), (0, 0), (1, 44), (1, 45), (1, 46), (1, 47), (1, 48), (1, 49), (0, 0), (0, 0), (0, 0), (0, 0), (1, 50), (1, 51), (1, 52), (1, 53), (1, 54), (1, 55), (1, 56), (1, 57), (1, 58), (0, 0), (1, 59), (1, 60), (0, 0), (1, 61), (1, 62), (1, 63), (0, 0), (1, 64), (1, 65), (1, 66), (1, 67), (1, 68), (0, 0), (1, 69), (1, 70), (1, 71), (0, 0)]))
theorem zE_m : zE_154 = zDm := by decide +kernel
set_option maxHeartbeats 400000 in
set_option maxRecDepth 100000 in
theorem ti_X11_init_42 {l : Launch} (hl0 : l.flags = flags0) {σl : zS} (hlay : nX11_lays (zi (zi (zi (zi (zi (zi (zi (zi (zi (zi (zi (zi zS0 3 6 (-1 : Int32)) 11 6 (-1 : Int32)) 0 11 (0 : Int32)) 0 12 (-1 : Int32)) 42 5 (-1 : Int32)) 42 19 (-1 : Int32)) 58 ((0 : Int32)).toNatClampNeg (625 : Int32)) 58 ((1 : Int32)).toNatClampNeg (125 : Int32)) 58 ((2 : Int32)).toNatClampNeg (25 : Int32)) 58 ((3 : Int32)).toNatClampNeg (5 : Int32)) 58 ((4 : Int32)).toNatClampNeg (1 : Int32)) 42 29 (-1 : Int32)) = some σl) : zC l yX11_init cX11_init 1 none 2 29 160666 [.ref 42] zE_96 (zi (zi (zi (zi zS0 3 6 (-1 : Int32)) 11 6 (-1 : Int32)) 0 11 (0 : Int32)) 0 12 (-1 : Int32)) (.inl none, zDm, σl) := by
  refine zC_of hl0 rfl (Nat.le_of_ble_eq_true rfl) (fun x hG hxl hk hnam => ?_)
  subst hxl
  show zK x 2 0 [(0, .ref 42)] [] zE_96 (zi (zi (zi (zi zS0 3 6 (-1 : Int32)) 11 6 (-1 : Int32)) 0 11 (0 : Int32)) 0 12 (-1 : Int32)) 29 160666
  refine z_aload_n (pc := 0) hG 0 rfl rfl dX11_init_0 ?_
  refine z_objinit (pc := 1) hG w1434 w34 w_oin (Nat.le_of_ble_eq_true rfl) dX11_init_1 ?_
  refine z_aload_n (pc := 4) hG 0 rfl rfl dX11_init_4 ?_
  refine z_sipush (pc := 5) hG ks_400 dX11_init_5 ?_
  refine z_newa (A' := 28) (B' := 160266) (atype := .int) (t := 0) (N := 400) (z := (400, .inl (fun _ => 0))) (pc := 8) hG wa_int rfl (fun _ => rfl) rfl (fun _ _ => Iff.rfl) (i := 43) (by decide +kernel) (by decide) (by decide +kernel) (fun _ _ => rfl) (fun _ => rfl) (by decide) rfl (Nat.le_of_ble_eq_true rfl) rfl rfl (dl' := zE_97) rfl rfl rfl dX11_init_8 ?_
  refine z_putrF (pc := 10) hG hnam zc_X11 inX11 tyX11 tyX11_ok nmX11 (i := 42) (fl := [(0, 0), (3, 0), (0, 0), (0, 0), (0, 0), (0, 0), (0, 0), (0, 0), (0, 0), (0, 0), (3, 0), (3, 0), (3, 0), (3, 0), (3, 0), (3, 0), (0, 0), (0, 0), (0, 0), (0, 0), (3, 0), (3, 0), (3, 0), (3, 0), (3, 0), (3, 0), (3, 0), (3, 0), (3, 0), (0, 0), (3, 0), (3, 0), (0, 0), (3, 0), (3, 0), (3, 0), (0, 0), (3, 0), (3, 0), (3, 0), (3, 0), (3, 0), (0, 0), (3, 0), (3, 0), (3, 0), (0, 0)]) (q := (1, 43)) (by decide +kernel) 1 (by decide) (by decide) rfl (fun _ => rfl) w1452 rfl rfl (fun _ => rfl) (fun _ => rfl) (dl' := zE_98) rfl dX11_init_10 ?_
  refine z_aload_n (pc := 13) hG 0 rfl rfl dX11_init_13 ?_
  refine z_iconst (pc := 14) hG kc_m1 dX11_init_14 ?_
  refine z_puti (pc := 15) hG zc_X11 inX11 tyX11 tyX11_ok nmX11 (i := 42) (fl := [(0, 0), (1, 43), (0, 0), (0, 0), (0, 0), (0, 0), (0, 0), (0, 0), (0, 0), (0, 0), (3, 0), (3, 0), (3, 0), (3, 0), (3, 0), (3, 0), (0, 0), (0, 0), (0, 0), (0, 0), (3, 0), (3, 0), (3, 0), (3, 0), (3, 0), (3, 0), (3, 0), (3, 0), (3, 0), (0, 0), (3, 0), (3, 0), (0, 0), (3, 0), (3, 0), (3, 0), (0, 0), (3, 0), (3, 0), (3, 0), (3, 0), (3, 0), (0, 0), (3, 0), (3, 0), (3, 0), (0, 0)]) (by decide +kernel) 5 rfl (by decide) rfl w1456 rfl rfl rfl dX11_init_15 ?_
  refine z_aload_n (pc := 18) hG 0 rfl rfl dX11_init_18 ?_
  refine z_iconst (pc := 19) hG kc_5 dX11_init_19 ?_
  refine z_newa (A' := 27) (B' := 160261) (atype := .long) (t := 3) (N := 5) (z := (5, .inr (.inl (fun _ => 0)))) (pc := 20) hG wa_long rfl (fun _ => rfl) rfl (fun _ _ => Iff.rfl) (i := 44) (by decide +kernel) (by decide) (by decide +kernel) (fun _ _ => rfl) (fun _ => rfl) (by decide) rfl (Nat.le_of_ble_eq_true rfl) rfl rfl (dl' := zE_99) rfl rfl rfl dX11_init_20 ?_
  refine z_putrF (pc := 22) hG hnam zc_X11 inX11 tyX11 tyX11_ok nmX11 (i := 42) (fl := [(0, 0), (1, 43), (0, 0), (0, 0), (0, 0), (0, 0), (0, 0), (0, 0), (0, 0), (0, 0), (3, 0), (3, 0), (3, 0), (3, 0), (3, 0), (3, 0), (0, 0), (0, 0), (0, 0), (0, 0), (3, 0), (3, 0), (3, 0), (3, 0), (3, 0), (3, 0), (3, 0), (3, 0), (3, 0), (0, 0), (3, 0), (3, 0), (0, 0), (3, 0), (3, 0), (3, 0), (0, 0), (3, 0), (3, 0), (3, 0), (3, 0), (3, 0), (0, 0), (3, 0), (3, 0), (3, 0), (0, 0)]) (q := (1, 44)) (by decide +kernel) 10 (by decide) (by decide) rfl (fun _ => rfl) w1461 rfl rfl (fun _ => rfl) (fun _ => rfl) (dl' := zE_100) rfl dX11_init_22 ?_
  refine z_aload_n (pc := 25) hG 0 rfl rfl dX11_init_25 ?_
  refine z_iconst (pc := 26) hG kc_5 dX11_init_26 ?_
  refine z_newa (A' := 26) (B' := 160256) (atype := .int) (t := 0) (N := 5) (z := (5, .inl (fun _ => 0))) (pc := 27) hG wa_int rfl (fun _ => rfl) rfl (fun _ _ => Iff.rfl) (i := 45) (by decide +kernel) (by decide) (by decide +kernel) (fun _ _ => rfl) (fun _ => rfl) (by decide) rfl (Nat.le_of_ble_eq_true rfl) rfl rfl (dl' := zE_101) rfl rfl rfl dX11_init_27 ?_
  refine z_putrF (pc := 29) hG hnam zc_X11 inX11 tyX11 tyX11_ok nmX11 (i := 42) (fl := [(0, 0), (1, 43), (0, 0), (0, 0), (0, 0), (0, 0), (0, 0), (0, 0), (0, 0), (0, 0), (1, 44), (3, 0), (3, 0), (3, 0), (3, 0), (3, 0), (0, 0), (0, 0), (0, 0), (0, 0), (3, 0), (3, 0), (3, 0), (3, 0), (3, 0), (3, 0), (3, 0), (3, 0), (3, 0), (0, 0), (3, 0), (3, 0), (0, 0), (3, 0), (3, 0), (3, 0), (0, 0), (3, 0), (3, 0), (3, 0), (3, 0), (3, 0), (0, 0), (3, 0), (3, 0), (3, 0), (0, 0)]) (q := (1, 45)) (by decide +kernel) 11 (by decide) (by decide) rfl (fun _ => rfl) w1462 rfl rfl (fun _ => rfl) (fun _ => rfl) (dl' := zE_102) rfl dX11_init_29 ?_
  refine z_aload_n (pc := 32) hG 0 rfl rfl dX11_init_32 ?_
  refine z_iconst (pc := 33) hG kc_5 dX11_init_33 ?_
  refine z_newa (A' := 25) (B' := 160251) (atype := .int) (t := 0) (N := 5) (z := (5, .inl (fun _ => 0))) (pc := 34) hG wa_int rfl (fun _ => rfl) rfl (fun _ _ => Iff.rfl) (i := 46) (by decide +kernel) (by decide) (by decide +kernel) (fun _ _ => rfl) (fun _ => rfl) (by decide) rfl (Nat.le_of_ble_eq_true rfl) rfl rfl (dl' := zE_103) rfl rfl rfl dX11_init_34 ?_
  refine z_putrF (pc := 36) hG hnam zc_X11 inX11 tyX11 tyX11_ok nmX11 (i := 42) (fl := [(0, 0), (1, 43), (0, 0), (0, 0), (0, 0), (0, 0), (0, 0), (0, 0), (0, 0), (0, 0), (1, 44), (1, 45), (3, 0), (3, 0), (3, 0), (3, 0), (0, 0), (0, 0), (0, 0), (0, 0), (3, 0), (3, 0), (3, 0), (3, 0), (3, 0), (3, 0), (3, 0), (3, 0), (3, 0), (0, 0), (3, 0), (3, 0), (0, 0), (3, 0), (3, 0), (3, 0), (0, 0), (3, 0), (3, 0), (3, 0), (3, 0), (3, 0), (0, 0), (3, 0), (3, 0), (3, 0), (0, 0)]) (q := (1, 46)) (by decide +kernel) 12 (by decide) (by decide) rfl (fun _ => rfl) w1463 rfl rfl (fun _ => rfl) (fun _ => rfl) (dl' := zE_104) rfl dX11_init_36 ?_
  refine z_aload_n (pc := 39) hG 0 rfl rfl dX11_init_39 ?_
  refine z_iconst (pc := 40) hG kc_5 dX11_init_40 ?_
  refine z_newa (A' := 24) (B' := 160246) (atype := .boolean) (t := 2) (N := 5) (z := (5, .inl (fun _ => 0))) (pc := 41) hG wa_boolean rfl (fun _ => rfl) rfl (fun _ _ => Iff.rfl) (i := 47) (by decide +kernel) (by decide) (by decide +kernel) (fun _ _ => rfl) (fun _ => rfl) (by decide) rfl (Nat.le_of_ble_eq_true rfl) rfl rfl (dl' := zE_105) rfl rfl rfl dX11_init_41 ?_
  refine z_putrF (pc := 43) hG hnam zc_X11 inX11 tyX11 tyX11_ok nmX11 (i := 42) (fl := [(0, 0), (1, 43), (0, 0), (0, 0), (0, 0), (0, 0), (0, 0), (0, 0), (0, 0), (0, 0), (1, 44), (1, 45), (1, 46), (3, 0), (3, 0), (3, 0), (0, 0), (0, 0), (0, 0), (0, 0), (3, 0), (3, 0), (3, 0), (3, 0), (3, 0), (3, 0), (3, 0), (3, 0), (3, 0), (0, 0), (3, 0), (3, 0), (0, 0), (3, 0), (3, 0), (3, 0), (0, 0), (3, 0), (3, 0), (3, 0), (3, 0), (3, 0), (0, 0), (3, 0), (3, 0), (3, 0), (0, 0)]) (q := (1, 47)) (by decide +kernel) 13 (by decide) (by decide) rfl (fun _ => rfl) w1464 rfl rfl (fun _ => rfl) (fun _ => rfl) (dl' := zE_106) rfl dX11_init_43 ?_
  refine z_aload_n (pc := 46) hG 0 rfl rfl dX11_init_46 ?_
  refine z_bipush (pc := 47) hG kb_30 dX11_init_47 ?_
  refine z_newa (A' := 23) (B' := 160216) (atype := .int) (t := 0) (N := 30) (z := (30, .inl (fun _ => 0))) (pc := 49) hG wa_int rfl (fun _ => rfl) rfl (fun _ _ => Iff.rfl) (i := 48) (by decide +kernel) (by decide) (by decide +kernel) (fun _ _ => rfl) (fun _ => rfl) (by decide) rfl (Nat.le_of_ble_eq_true rfl) rfl rfl (dl' := zE_107) rfl rfl rfl dX11_init_49 ?_
  refine z_putrF (pc := 51) hG hnam zc_X11 inX11 tyX11 tyX11_ok nmX11 (i := 42) (fl := [(0, 0), (1, 43), (0, 0), (0, 0), (0, 0), (0, 0), (0, 0), (0, 0), (0, 0), (0, 0), (1, 44), (1, 45), (1, 46), (1, 47), (3, 0), (3, 0), (0, 0), (0, 0), (0, 0), (0, 0), (3, 0), (3, 0), (3, 0), (3, 0), (3, 0), (3, 0), (3, 0), (3, 0), (3, 0), (0, 0), (3, 0), (3, 0), (0, 0), (3, 0), (3, 0), (3, 0), (0, 0), (3, 0), (3, 0), (3, 0), (3, 0), (3, 0), (0, 0), (3, 0), (3, 0), (3, 0), (0, 0)]) (q := (1, 48)) (by decide +kernel) 14 (by decide) (by decide) rfl (fun _ => rfl) w1465 rfl rfl (fun _ => rfl) (fun _ => rfl) (dl' := zE_108) rfl dX11_init_51 ?_
  refine z_aload_n (pc := 54) hG 0 rfl rfl dX11_init_54 ?_
  refine z_sipush (pc := 55) hG ks_200 dX11_init_55 ?_
  refine z_newa (A' := 22) (B' := 160016) (atype := .int) (t := 0) (N := 200) (z := (200, .inl (fun _ => 0))) (pc := 58) hG wa_int rfl (fun _ => rfl) rfl (fun _ _ => Iff.rfl) (i := 49) (by decide +kernel) (by decide) (by decide +kernel) (fun _ _ => rfl) (fun _ => rfl) (by decide) rfl (Nat.le_of_ble_eq_true rfl) rfl rfl (dl' := zE_109) rfl rfl rfl dX11_init_58 ?_
  refine z_putrF (pc := 60) hG hnam zc_X11 inX11 tyX11 tyX11_ok nmX11 (i := 42) (fl := [(0, 0), (1, 43), (0, 0), (0, 0), (0, 0), (0, 0), (0, 0), (0, 0), (0, 0), (0, 0), (1, 44), (1, 45), (1, 46), (1, 47), (1, 48), (3, 0), (0, 0), (0, 0), (0, 0), (0, 0), (3, 0), (3, 0), (3, 0), (3, 0), (3, 0), (3, 0), (3, 0), (3, 0), (3, 0), (0, 0), (3, 0), (3, 0), (0, 0), (3, 0), (3, 0), (3, 0), (0, 0), (3, 0), (3, 0), (3, 0), (3, 0), (3, 0), (0, 0), (3, 0), (3, 0), (3, 0), (0, 0)]) (q := (1, 49)) (by decide +kernel) 15 (by decide) (by decide) rfl (fun _ => rfl) w1466 rfl rfl (fun _ => rfl) (fun _ => rfl) (dl' := zE_110) rfl dX11_init_60 ?_
  refine z_aload_n (pc := 63) hG 0 rfl rfl dX11_init_63 ?_
  refine z_iconst (pc := 64) hG kc_m1 dX11_init_64 ?_
  refine z_puti (pc := 65) hG zc_X11 inX11 tyX11 tyX11_ok nmX11 (i := 42) (fl := [(0, 0), (1, 43), (0, 0), (0, 0), (0, 0), (0, 0), (0, 0), (0, 0), (0, 0), (0, 0), (1, 44), (1, 45), (1, 46), (1, 47), (1, 48), (1, 49), (0, 0), (0, 0), (0, 0), (0, 0), (3, 0), (3, 0), (3, 0), (3, 0), (3, 0), (3, 0), (3, 0), (3, 0), (3, 0), (0, 0), (3, 0), (3, 0), (0, 0), (3, 0), (3, 0), (3, 0), (0, 0), (3, 0), (3, 0), (3, 0), (3, 0), (3, 0), (0, 0), (3, 0), (3, 0), (3, 0), (0, 0)]) (by decide +kernel) 19 rfl (by decide) rfl w1470 rfl rfl rfl dX11_init_65 ?_
  refine z_aload_n (pc := 68) hG 0 rfl rfl dX11_init_68 ?_
  refine z_iconst (pc := 69) hG kc_5 dX11_init_69 ?_
  refine z_newa (A' := 21) (B' := 160011) (atype := .long) (t := 3) (N := 5) (z := (5, .inr (.inl (fun _ => 0)))) (pc := 70) hG wa_long rfl (fun _ => rfl) rfl (fun _ _ => Iff.rfl) (i := 50) (by decide +kernel) (by decide) (by decide +kernel) (fun _ _ => rfl) (fun _ => rfl) (by decide) rfl (Nat.le_of_ble_eq_true rfl) rfl rfl (dl' := zE_111) rfl rfl rfl dX11_init_70 ?_
  refine z_putrF (pc := 72) hG hnam zc_X11 inX11 tyX11 tyX11_ok nmX11 (i := 42) (fl := [(0, 0), (1, 43), (0, 0), (0, 0), (0, 0), (0, 0), (0, 0), (0, 0), (0, 0), (0, 0), (1, 44), (1, 45), (1, 46), (1, 47), (1, 48), (1, 49), (0, 0), (0, 0), (0, 0), (0, 0), (3, 0), (3, 0), (3, 0), (3, 0), (3, 0), (3, 0), (3, 0), (3, 0), (3, 0), (0, 0), (3, 0), (3, 0), (0, 0), (3, 0), (3, 0), (3, 0), (0, 0), (3, 0), (3, 0), (3, 0), (3, 0), (3, 0), (0, 0), (3, 0), (3, 0), (3, 0), (0, 0)]) (q := (1, 50)) (by decide +kernel) 20 (by decide) (by decide) rfl (fun _ => rfl) w1471 rfl rfl (fun _ => rfl) (fun _ => rfl) (dl' := zE_112) rfl dX11_init_72 ?_
  refine z_aload_n (pc := 75) hG 0 rfl rfl dX11_init_75 ?_
  refine z_iconst (pc := 76) hG kc_5 dX11_init_76 ?_
  refine z_newa (A' := 20) (B' := 160006) (atype := .int) (t := 0) (N := 5) (z := (5, .inl (fun _ => 0))) (pc := 77) hG wa_int rfl (fun _ => rfl) rfl (fun _ _ => Iff.rfl) (i := 51) (by decide +kernel) (by decide) (by decide +kernel) (fun _ _ => rfl) (fun _ => rfl) (by decide) rfl (Nat.le_of_ble_eq_true rfl) rfl rfl (dl' := zE_113) rfl rfl rfl dX11_init_77 ?_
  refine z_putrF (pc := 79) hG hnam zc_X11 inX11 tyX11 tyX11_ok nmX11 (i := 42) (fl := [(0, 0), (1, 43), (0, 0), (0, 0), (0, 0), (0, 0), (0, 0), (0, 0), (0, 0), (0, 0), (1, 44), (1, 45), (1, 46), (1, 47), (1, 48), (1, 49), (0, 0), (0, 0), (0, 0), (0, 0), (1, 50), (3, 0), (3, 0), (3, 0), (3, 0), (3, 0), (3, 0), (3, 0), (3, 0), (0, 0), (3, 0), (3, 0), (0, 0), (3, 0), (3, 0), (3, 0), (0, 0), (3, 0), (3, 0), (3, 0), (3, 0), (3, 0), (0, 0), (3, 0), (3, 0), (3, 0), (0, 0)]) (q := (1, 51)) (by decide +kernel) 21 (by decide) (by decide) rfl (fun _ => rfl) w1472 rfl rfl (fun _ => rfl) (fun _ => rfl) (dl' := zE_114) rfl dX11_init_79 ?_
  refine z_aload_n (pc := 82) hG 0 rfl rfl dX11_init_82 ?_
  refine z_iconst (pc := 83) hG kc_5 dX11_init_83 ?_
  refine z_newa (A' := 19) (B' := 160001) (atype := .int) (t := 0) (N := 5) (z := (5, .inl (fun _ => 0))) (pc := 84) hG wa_int rfl (fun _ => rfl) rfl (fun _ _ => Iff.rfl) (i := 52) (by decide +kernel) (by decide) (by decide +kernel) (fun _ _ => rfl) (fun _ => rfl) (by decide) rfl (Nat.le_of_ble_eq_true rfl) rfl rfl (dl' := zE_115) rfl rfl rfl dX11_init_84 ?_
  refine z_putrF (pc := 86) hG hnam zc_X11 inX11 tyX11 tyX11_ok nmX11 (i := 42) (fl := [(0, 0), (1, 43), (0, 0), (0, 0), (0, 0), (0, 0), (0, 0), (0, 0), (0, 0), (0, 0), (1, 44), (1, 45), (1, 46), (1, 47), (1, 48), (1, 49), (0, 0), (0, 0), (0, 0), (0, 0), (1, 50), (1, 51), (3, 0), (3, 0), (3, 0), (3, 0), (3, 0), (3, 0), (3, 0), (0, 0), (3, 0), (3, 0), (0, 0), (3, 0), (3, 0), (3, 0), (0, 0), (3, 0), (3, 0), (3, 0), (3, 0), (3, 0), (0, 0), (3, 0), (3, 0), (3, 0), (0, 0)]) (q := (1, 52)) (by decide +kernel) 22 (by decide) (by decide) rfl (fun _ => rfl) w1473 rfl rfl (fun _ => rfl) (fun _ => rfl) (dl' := zE_116) rfl dX11_init_86 ?_
  refine z_aload_n (pc := 89) hG 0 rfl rfl dX11_init_89 ?_
  refine z_iconst (pc := 90) hG kc_5 dX11_init_90 ?_
  refine z_newa (A' := 18) (B' := 159996) (atype := .boolean) (t := 2) (N := 5) (z := (5, .inl (fun _ => 0))) (pc := 91) hG wa_boolean rfl (fun _ => rfl) rfl (fun _ _ => Iff.rfl) (i := 53) (by decide +kernel) (by decide) (by decide +kernel) (fun _ _ => rfl) (fun _ => rfl) (by decide) rfl (Nat.le_of_ble_eq_true rfl) rfl rfl (dl' := zE_117) rfl rfl rfl dX11_init_91 ?_
  refine z_putrF (pc := 93) hG hnam zc_X11 inX11 tyX11 tyX11_ok nmX11 (i := 42) (fl := [(0, 0), (1, 43), (0, 0), (0, 0), (0, 0), (0, 0), (0, 0), (0, 0), (0, 0), (0, 0), (1, 44), (1, 45), (1, 46), (1, 47), (1, 48), (1, 49), (0, 0), (0, 0), (0, 0), (0, 0), (1, 50), (1, 51), (1, 52), (3, 0), (3, 0), (3, 0), (3, 0), (3, 0), (3, 0), (0, 0), (3, 0), (3, 0), (0, 0), (3, 0), (3, 0), (3, 0), (0, 0), (3, 0), (3, 0), (3, 0), (3, 0), (3, 0), (0, 0), (3, 0), (3, 0), (3, 0), (0, 0)]) (q := (1, 53)) (by decide +kernel) 23 (by decide) (by decide) rfl (fun _ => rfl) w1474 rfl rfl (fun _ => rfl) (fun _ => rfl) (dl' := zE_118) rfl dX11_init_93 ?_
  refine z_aload_n (pc := 96) hG 0 rfl rfl dX11_init_96 ?_
  refine z_bipush (pc := 97) hG kb_30 dX11_init_97 ?_
  refine z_newa (A' := 17) (B' := 159966) (atype := .int) (t := 0) (N := 30) (z := (30, .inl (fun _ => 0))) (pc := 99) hG wa_int rfl (fun _ => rfl) rfl (fun _ _ => Iff.rfl) (i := 54) (by decide +kernel) (by decide) (by decide +kernel) (fun _ _ => rfl) (fun _ => rfl) (by decide) rfl (Nat.le_of_ble_eq_true rfl) rfl rfl (dl' := zE_119) rfl rfl rfl dX11_init_99 ?_
  refine z_putrF (pc := 101) hG hnam zc_X11 inX11 tyX11 tyX11_ok nmX11 (i := 42) (fl := [(0, 0), (1, 43), (0, 0), (0, 0), (0, 0), (0, 0), (0, 0), (0, 0), (0, 0), (0, 0), (1, 44), (1, 45), (1, 46), (1, 47), (1, 48), (1, 49), (0, 0), (0, 0), (0, 0), (0, 0), (1, 50), (1, 51), (1, 52), (1, 53), (3, 0), (3, 0), (3, 0), (3, 0), (3, 0), (0, 0), (3, 0), (3, 0), (0, 0), (3, 0), (3, 0), (3, 0), (0, 0), (3, 0), (3, 0), (3, 0), (3, 0), (3, 0), (0, 0), (3, 0), (3, 0), (3, 0), (0, 0)]) (q := (1, 54)) (by decide +kernel) 24 (by decide) (by decide) rfl (fun _ => rfl) w1475 rfl rfl (fun _ => rfl) (fun _ => rfl) (dl' := zE_120) rfl dX11_init_101 ?_
  refine z_aload_n (pc := 104) hG 0 rfl rfl dX11_init_104 ?_
  refine z_sipush (pc := 105) hG ks_200 dX11_init_105 ?_
  refine z_newa (A' := 16) (B' := 159766) (atype := .int) (t := 0) (N := 200) (z := (200, .inl (fun _ => 0))) (pc := 108) hG wa_int rfl (fun _ => rfl) rfl (fun _ _ => Iff.rfl) (i := 55) (by decide +kernel) (by decide) (by decide +kernel) (fun _ _ => rfl) (fun _ => rfl) (by decide) rfl (Nat.le_of_ble_eq_true rfl) rfl rfl (dl' := zE_121) rfl rfl rfl dX11_init_108 ?_
  refine z_putrF (pc := 110) hG hnam zc_X11 inX11 tyX11 tyX11_ok nmX11 (i := 42) (fl := [(0, 0), (1, 43), (0, 0), (0, 0), (0, 0), (0, 0), (0, 0), (0, 0), (0, 0), (0, 0), (1, 44), (1, 45), (1, 46), (1, 47), (1, 48), (1, 49), (0, 0), (0, 0), (0, 0), (0, 0), (1, 50), (1, 51), (1, 52), (1, 53), (1, 54), (3, 0), (3, 0), (3, 0), (3, 0), (0, 0), (3, 0), (3, 0), (0, 0), (3, 0), (3, 0), (3, 0), (0, 0), (3, 0), (3, 0), (3, 0), (3, 0), (3, 0), (0, 0), (3, 0), (3, 0), (3, 0), (0, 0)]) (q := (1, 55)) (by decide +kernel) 25 (by decide) (by decide) rfl (fun _ => rfl) w1476 rfl rfl (fun _ => rfl) (fun _ => rfl) (dl' := zE_122) rfl dX11_init_110 ?_
  refine z_aload_n (pc := 113) hG 0 rfl rfl dX11_init_113 ?_
  refine z_sipush (pc := 114) hG ks_3125 dX11_init_114 ?_
  refine z_newa (A' := 15) (B' := 156641) (atype := .int) (t := 0) (N := 3125) (z := (3125, .inl (fun _ => 0))) (pc := 117) hG wa_int rfl (fun _ => rfl) rfl (fun _ _ => Iff.rfl) (i := 56) (by decide +kernel) (by decide) (by decide +kernel) (fun _ _ => rfl) (fun _ => rfl) (by decide) rfl (Nat.le_of_ble_eq_true rfl) rfl rfl (dl' := zE_123) rfl rfl rfl dX11_init_117 ?_
  refine z_putrF (pc := 119) hG hnam zc_X11 inX11 tyX11 tyX11_ok nmX11 (i := 42) (fl := [(0, 0), (1, 43), (0, 0), (0, 0), (0, 0), (0, 0), (0, 0), (0, 0), (0, 0), (0, 0), (1, 44), (1, 45), (1, 46), (1, 47), (1, 48), (1, 49), (0, 0), (0, 0), (0, 0), (0, 0), (1, 50), (1, 51), (1, 52), (1, 53), (1, 54), (1, 55), (3, 0), (3, 0), (3, 0), (0, 0), (3, 0), (3, 0), (0, 0), (3, 0), (3, 0), (3, 0), (0, 0), (3, 0), (3, 0), (3, 0), (3, 0), (3, 0), (0, 0), (3, 0), (3, 0), (3, 0), (0, 0)]) (q := (1, 56)) (by decide +kernel) 26 (by decide) (by decide) rfl (fun _ => rfl) w1477 rfl rfl (fun _ => rfl) (fun _ => rfl) (dl' := zE_124) rfl dX11_init_119 ?_
  refine z_aload_n (pc := 122) hG 0 rfl rfl dX11_init_122 ?_
  refine z_sipush (pc := 123) hG ks_3125 dX11_init_123 ?_
  refine z_newa (A' := 14) (B' := 153516) (atype := .boolean) (t := 2) (N := 3125) (z := (3125, .inl (fun _ => 0))) (pc := 126) hG wa_boolean rfl (fun _ => rfl) rfl (fun _ _ => Iff.rfl) (i := 57) (by decide +kernel) (by decide) (by decide +kernel) (fun _ _ => rfl) (fun _ => rfl) (by decide) rfl (Nat.le_of_ble_eq_true rfl) rfl rfl (dl' := zE_125) rfl rfl rfl dX11_init_126 ?_
  refine z_putrF (pc := 128) hG hnam zc_X11 inX11 tyX11 tyX11_ok nmX11 (i := 42) (fl := [(0, 0), (1, 43), (0, 0), (0, 0), (0, 0), (0, 0), (0, 0), (0, 0), (0, 0), (0, 0), (1, 44), (1, 45), (1, 46), (1, 47), (1, 48), (1, 49), (0, 0), (0, 0), (0, 0), (0, 0), (1, 50), (1, 51), (1, 52), (1, 53), (1, 54), (1, 55), (1, 56), (3, 0), (3, 0), (0, 0), (3, 0), (3, 0), (0, 0), (3, 0), (3, 0), (3, 0), (0, 0), (3, 0), (3, 0), (3, 0), (3, 0), (3, 0), (0, 0), (3, 0), (3, 0), (3, 0), (0, 0)]) (q := (1, 57)) (by decide +kernel) 27 (by decide) (by decide) rfl (fun _ => rfl) w1478 rfl rfl (fun _ => rfl) (fun _ => rfl) (dl' := zE_126) rfl dX11_init_128 ?_
  refine z_aload_n (pc := 131) hG 0 rfl rfl dX11_init_131 ?_
  refine z_iconst (pc := 132) hG kc_5 dX11_init_132 ?_
  refine z_newa (A' := 13) (B' := 153511) (atype := .int) (t := 0) (N := 5) (z := (5, .inl (fun _ => 0))) (pc := 133) hG wa_int rfl (fun _ => rfl) rfl (fun _ _ => Iff.rfl) (i := 58) (by decide +kernel) (by decide) (by decide +kernel) (fun _ _ => rfl) (fun _ => rfl) (by decide) rfl (Nat.le_of_ble_eq_true rfl) rfl rfl (dl' := zE_127) rfl rfl rfl dX11_init_133 ?_
  refine z_dup (pc := 135) hG rfl dX11_init_135 ?_
  refine z_iconst (pc := 136) hG kc_0 dX11_init_136 ?_
  refine z_sipush (pc := 137) hG ks_625 dX11_init_137 ?_
  refine z_iast (pc := 140) hG (i := 58) (n := 5) (by decide +kernel) (zin_in (by decide)) dX11_init_140 ?_
  refine z_dup (pc := 141) hG rfl dX11_init_141 ?_
  refine z_iconst (pc := 142) hG kc_1 dX11_init_142 ?_
  refine z_bipush (pc := 143) hG kb_125 dX11_init_143 ?_
  refine z_iast (pc := 145) hG (i := 58) (n := 5) (by decide +kernel) (zin_in (by decide)) dX11_init_145 ?_
  refine z_dup (pc := 146) hG rfl dX11_init_146 ?_
  refine z_iconst (pc := 147) hG kc_2 dX11_init_147 ?_
  refine z_bipush (pc := 148) hG kb_25 dX11_init_148 ?_
  refine z_iast (pc := 150) hG (i := 58) (n := 5) (by decide +kernel) (zin_in (by decide)) dX11_init_150 ?_
  refine z_dup (pc := 151) hG rfl dX11_init_151 ?_
  refine z_iconst (pc := 152) hG kc_3 dX11_init_152 ?_
  refine z_iconst (pc := 153) hG kc_5 dX11_init_153 ?_
  refine z_iast (pc := 154) hG (i := 58) (n := 5) (by decide +kernel) (zin_in (by decide)) dX11_init_154 ?_
  refine z_dup (pc := 155) hG rfl dX11_init_155 ?_
  refine z_iconst (pc := 156) hG kc_4 dX11_init_156 ?_
  refine z_iconst (pc := 157) hG kc_1 dX11_init_157 ?_
  refine z_iast (pc := 158) hG (i := 58) (n := 5) (by decide +kernel) (zin_in (by decide)) dX11_init_158 ?_
  refine z_putrF (pc := 159) hG hnam zc_X11 inX11 tyX11 tyX11_ok nmX11 (i := 42) (fl := [(0, 0), (1, 43), (0, 0), (0, 0), (0, 0), (0, 0), (0, 0), (0, 0), (0, 0), (0, 0), (1, 44), (1, 45), (1, 46), (1, 47), (1, 48), (1, 49), (0, 0), (0, 0), (0, 0), (0, 0), (1, 50), (1, 51), (1, 52), (1, 53), (1, 54), (1, 55), (1, 56), (1, 57), (3, 0), (0, 0), (3, 0), (3, 0), (0, 0), (3, 0), (3, 0), (3, 0), (0, 0), (3, 0), (3, 0), (3, 0), (3, 0), (3, 0), (0, 0), (3, 0), (3, 0), (3, 0), (0, 0)]) (q := (1, 58)) (by decide +kernel) 28 (by decide) (by decide) rfl (fun _ => rfl) w1479 rfl rfl (fun _ => rfl) (fun _ => rfl) (dl' := zE_128) rfl dX11_init_159 ?_
  refine z_aload_n (pc := 162) hG 0 rfl rfl dX11_init_162 ?_
  refine z_iconst (pc := 163) hG kc_m1 dX11_init_163 ?_
  refine z_puti (pc := 164) hG zc_X11 inX11 tyX11 tyX11_ok nmX11 (i := 42) (fl := [(0, 0), (1, 43), (0, 0), (0, 0), (0, 0), (0, 0), (0, 0), (0, 0), (0, 0), (0, 0), (1, 44), (1, 45), (1, 46), (1, 47), (1, 48), (1, 49), (0, 0), (0, 0), (0, 0), (0, 0), (1, 50), (1, 51), (1, 52), (1, 53), (1, 54), (1, 55), (1, 56), (1, 57), (1, 58), (0, 0), (3, 0), (3, 0), (0, 0), (3, 0), (3, 0), (3, 0), (0, 0), (3, 0), (3, 0), (3, 0), (3, 0), (3, 0), (0, 0), (3, 0), (3, 0), (3, 0), (0, 0)]) (by decide +kernel) 29 rfl (by decide) rfl w1480 rfl rfl rfl dX11_init_164 ?_
  refine z_aload_n (pc := 167) hG 0 rfl rfl dX11_init_167 ?_
  refine z_ldc (pc := 168) hG w1435 dX11_init_168 ?_
  refine z_newa (A' := 12) (B' := 3511) (atype := .int) (t := 0) (N := 150000) (z := (150000, .inl (fun _ => 0))) (pc := 170) hG wa_int rfl (fun _ => rfl) rfl (fun _ _ => Iff.rfl) (i := 59) (by decide +kernel) (by decide) (by decide +kernel) (fun _ _ => rfl) (fun _ => rfl) (by decide) rfl (Nat.le_of_ble_eq_true rfl) rfl rfl (dl' := zE_129) rfl rfl rfl dX11_init_170 ?_
  refine z_putrF (pc := 172) hG hnam zc_X11 inX11 tyX11 tyX11_ok nmX11 (i := 42) (fl := [(0, 0), (1, 43), (0, 0), (0, 0), (0, 0), (0, 0), (0, 0), (0, 0), (0, 0), (0, 0), (1, 44), (1, 45), (1, 46), (1, 47), (1, 48), (1, 49), (0, 0), (0, 0), (0, 0), (0, 0), (1, 50), (1, 51), (1, 52), (1, 53), (1, 54), (1, 55), (1, 56), (1, 57), (1, 58), (0, 0), (3, 0), (3, 0), (0, 0), (3, 0), (3, 0), (3, 0), (0, 0), (3, 0), (3, 0), (3, 0), (3, 0), (3, 0), (0, 0), (3, 0), (3, 0), (3, 0), (0, 0)]) (q := (1, 59)) (by decide +kernel) 30 (by decide) (by decide) rfl (fun _ => rfl) w1481 rfl rfl (fun _ => rfl) (fun _ => rfl) (dl' := zE_130) rfl dX11_init_172 ?_
  refine z_aload_n (pc := 175) hG 0 rfl rfl dX11_init_175 ?_
  refine z_iconst (pc := 176) hG kc_5 dX11_init_176 ?_
  refine z_newa (A' := 11) (B' := 3506) (atype := .int) (t := 0) (N := 5) (z := (5, .inl (fun _ => 0))) (pc := 177) hG wa_int rfl (fun _ => rfl) rfl (fun _ _ => Iff.rfl) (i := 60) (by decide +kernel) (by decide) (by decide +kernel) (fun _ _ => rfl) (fun _ => rfl) (by decide) rfl (Nat.le_of_ble_eq_true rfl) rfl rfl (dl' := zE_131) rfl rfl rfl dX11_init_177 ?_
  refine z_putrF (pc := 179) hG hnam zc_X11 inX11 tyX11 tyX11_ok nmX11 (i := 42) (fl := [(0, 0), (1, 43), (0, 0), (0, 0), (0, 0), (0, 0), (0, 0), (0, 0), (0, 0), (0, 0), (1, 44), (1, 45), (1, 46), (1, 47), (1, 48), (1, 49), (0, 0), (0, 0), (0, 0), (0, 0), (1, 50), (1, 51), (1, 52), (1, 53), (1, 54), (1, 55), (1, 56), (1, 57), (1, 58), (0, 0), (1, 59), (3, 0), (0, 0), (3, 0), (3, 0), (3, 0), (0, 0), (3, 0), (3, 0), (3, 0), (3, 0), (3, 0), (0, 0), (3, 0), (3, 0), (3, 0), (0, 0)]) (q := (1, 60)) (by decide +kernel) 31 (by decide) (by decide) rfl (fun _ => rfl) w1482 rfl rfl (fun _ => rfl) (fun _ => rfl) (dl' := zE_132) rfl dX11_init_179 ?_
  refine z_aload_n (pc := 182) hG 0 rfl rfl dX11_init_182 ?_
  refine z_bipush (pc := 183) hG kb_16 dX11_init_183 ?_
  refine z_newa (A' := 10) (B' := 3490) (atype := .int) (t := 0) (N := 16) (z := (16, .inl (fun _ => 0))) (pc := 185) hG wa_int rfl (fun _ => rfl) rfl (fun _ _ => Iff.rfl) (i := 61) (by decide +kernel) (by decide) (by decide +kernel) (fun _ _ => rfl) (fun _ => rfl) (by decide) rfl (Nat.le_of_ble_eq_true rfl) rfl rfl (dl' := zE_133) rfl rfl rfl dX11_init_185 ?_
  refine z_putrF (pc := 187) hG hnam zc_X11 inX11 tyX11 tyX11_ok nmX11 (i := 42) (fl := [(0, 0), (1, 43), (0, 0), (0, 0), (0, 0), (0, 0), (0, 0), (0, 0), (0, 0), (0, 0), (1, 44), (1, 45), (1, 46), (1, 47), (1, 48), (1, 49), (0, 0), (0, 0), (0, 0), (0, 0), (1, 50), (1, 51), (1, 52), (1, 53), (1, 54), (1, 55), (1, 56), (1, 57), (1, 58), (0, 0), (1, 59), (1, 60), (0, 0), (3, 0), (3, 0), (3, 0), (0, 0), (3, 0), (3, 0), (3, 0), (3, 0), (3, 0), (0, 0), (3, 0), (3, 0), (3, 0), (0, 0)]) (q := (1, 61)) (by decide +kernel) 33 (by decide) (by decide) rfl (fun _ => rfl) w1484 rfl rfl (fun _ => rfl) (fun _ => rfl) (dl' := zE_134) rfl dX11_init_187 ?_
  refine z_aload_n (pc := 190) hG 0 rfl rfl dX11_init_190 ?_
  refine z_sipush (pc := 191) hG ks_3200 dX11_init_191 ?_
  refine z_newa (A' := 9) (B' := 290) (atype := .int) (t := 0) (N := 3200) (z := (3200, .inl (fun _ => 0))) (pc := 194) hG wa_int rfl (fun _ => rfl) rfl (fun _ _ => Iff.rfl) (i := 62) (by decide +kernel) (by decide) (by decide +kernel) (fun _ _ => rfl) (fun _ => rfl) (by decide) rfl (Nat.le_of_ble_eq_true rfl) rfl rfl (dl' := zE_135) rfl rfl rfl dX11_init_194 ?_
  refine z_putrF (pc := 196) hG hnam zc_X11 inX11 tyX11 tyX11_ok nmX11 (i := 42) (fl := [(0, 0), (1, 43), (0, 0), (0, 0), (0, 0), (0, 0), (0, 0), (0, 0), (0, 0), (0, 0), (1, 44), (1, 45), (1, 46), (1, 47), (1, 48), (1, 49), (0, 0), (0, 0), (0, 0), (0, 0), (1, 50), (1, 51), (1, 52), (1, 53), (1, 54), (1, 55), (1, 56), (1, 57), (1, 58), (0, 0), (1, 59), (1, 60), (0, 0), (1, 61), (3, 0), (3, 0), (0, 0), (3, 0), (3, 0), (3, 0), (3, 0), (3, 0), (0, 0), (3, 0), (3, 0), (3, 0), (0, 0)]) (q := (1, 62)) (by decide +kernel) 34 (by decide) (by decide) rfl (fun _ => rfl) w1485 rfl rfl (fun _ => rfl) (fun _ => rfl) (dl' := zE_136) rfl dX11_init_196 ?_
  refine z_aload_n (pc := 199) hG 0 rfl rfl dX11_init_199 ?_
  refine z_iconst (pc := 200) hG kc_5 dX11_init_200 ?_
  refine z_newa (A' := 8) (B' := 285) (atype := .int) (t := 0) (N := 5) (z := (5, .inl (fun _ => 0))) (pc := 201) hG wa_int rfl (fun _ => rfl) rfl (fun _ _ => Iff.rfl) (i := 63) (by decide +kernel) (by decide) (by decide +kernel) (fun _ _ => rfl) (fun _ => rfl) (by decide) rfl (Nat.le_of_ble_eq_true rfl) rfl rfl (dl' := zE_137) rfl rfl rfl dX11_init_201 ?_
  refine z_putrF (pc := 203) hG hnam zc_X11 inX11 tyX11 tyX11_ok nmX11 (i := 42) (fl := [(0, 0), (1, 43), (0, 0), (0, 0), (0, 0), (0, 0), (0, 0), (0, 0), (0, 0), (0, 0), (1, 44), (1, 45), (1, 46), (1, 47), (1, 48), (1, 49), (0, 0), (0, 0), (0, 0), (0, 0), (1, 50), (1, 51), (1, 52), (1, 53), (1, 54), (1, 55), (1, 56), (1, 57), (1, 58), (0, 0), (1, 59), (1, 60), (0, 0), (1, 61), (1, 62), (3, 0), (0, 0), (3, 0), (3, 0), (3, 0), (3, 0), (3, 0), (0, 0), (3, 0), (3, 0), (3, 0), (0, 0)]) (q := (1, 63)) (by decide +kernel) 35 (by decide) (by decide) rfl (fun _ => rfl) w1486 rfl rfl (fun _ => rfl) (fun _ => rfl) (dl' := zE_138) rfl dX11_init_203 ?_
  refine z_aload_n (pc := 206) hG 0 rfl rfl dX11_init_206 ?_
  refine z_bipush (pc := 207) hG kb_40 dX11_init_207 ?_
  refine z_newa (A' := 7) (B' := 245) (atype := .int) (t := 0) (N := 40) (z := (40, .inl (fun _ => 0))) (pc := 209) hG wa_int rfl (fun _ => rfl) rfl (fun _ _ => Iff.rfl) (i := 64) (by decide +kernel) (by decide) (by decide +kernel) (fun _ _ => rfl) (fun _ => rfl) (by decide) rfl (Nat.le_of_ble_eq_true rfl) rfl rfl (dl' := zE_139) rfl rfl rfl dX11_init_209 ?_
  refine z_putrF (pc := 211) hG hnam zc_X11 inX11 tyX11 tyX11_ok nmX11 (i := 42) (fl := [(0, 0), (1, 43), (0, 0), (0, 0), (0, 0), (0, 0), (0, 0), (0, 0), (0, 0), (0, 0), (1, 44), (1, 45), (1, 46), (1, 47), (1, 48), (1, 49), (0, 0), (0, 0), (0, 0), (0, 0), (1, 50), (1, 51), (1, 52), (1, 53), (1, 54), (1, 55), (1, 56), (1, 57), (1, 58), (0, 0), (1, 59), (1, 60), (0, 0), (1, 61), (1, 62), (1, 63), (0, 0), (3, 0), (3, 0), (3, 0), (3, 0), (3, 0), (0, 0), (3, 0), (3, 0), (3, 0), (0, 0)]) (q := (1, 64)) (by decide +kernel) 37 (by decide) (by decide) rfl (fun _ => rfl) w1488 rfl rfl (fun _ => rfl) (fun _ => rfl) (dl' := zE_140) rfl dX11_init_211 ?_
  refine z_aload_n (pc := 214) hG 0 rfl rfl dX11_init_214 ?_
  refine z_bipush (pc := 215) hG kb_40 dX11_init_215 ?_
  refine z_newa (A' := 6) (B' := 205) (atype := .int) (t := 0) (N := 40) (z := (40, .inl (fun _ => 0))) (pc := 217) hG wa_int rfl (fun _ => rfl) rfl (fun _ _ => Iff.rfl) (i := 65) (by decide +kernel) (by decide) (by decide +kernel) (fun _ _ => rfl) (fun _ => rfl) (by decide) rfl (Nat.le_of_ble_eq_true rfl) rfl rfl (dl' := zE_141) rfl rfl rfl dX11_init_217 ?_
  refine z_putrF (pc := 219) hG hnam zc_X11 inX11 tyX11 tyX11_ok nmX11 (i := 42) (fl := [(0, 0), (1, 43), (0, 0), (0, 0), (0, 0), (0, 0), (0, 0), (0, 0), (0, 0), (0, 0), (1, 44), (1, 45), (1, 46), (1, 47), (1, 48), (1, 49), (0, 0), (0, 0), (0, 0), (0, 0), (1, 50), (1, 51), (1, 52), (1, 53), (1, 54), (1, 55), (1, 56), (1, 57), (1, 58), (0, 0), (1, 59), (1, 60), (0, 0), (1, 61), (1, 62), (1, 63), (0, 0), (1, 64), (3, 0), (3, 0), (3, 0), (3, 0), (0, 0), (3, 0), (3, 0), (3, 0), (0, 0)]) (q := (1, 65)) (by decide +kernel) 38 (by decide) (by decide) rfl (fun _ => rfl) w1489 rfl rfl (fun _ => rfl) (fun _ => rfl) (dl' := zE_142) rfl dX11_init_219 ?_
  refine z_aload_n (pc := 222) hG 0 rfl rfl dX11_init_222 ?_
  refine z_bipush (pc := 223) hG kb_40 dX11_init_223 ?_
  refine z_newa (A' := 5) (B' := 165) (atype := .int) (t := 0) (N := 40) (z := (40, .inl (fun _ => 0))) (pc := 225) hG wa_int rfl (fun _ => rfl) rfl (fun _ _ => Iff.rfl) (i := 66) (by decide +kernel) (by decide) (by decide +kernel) (fun _ _ => rfl) (fun _ => rfl) (by decide) rfl (Nat.le_of_ble_eq_true rfl) rfl rfl (dl' := zE_143) rfl rfl rfl dX11_init_225 ?_
  refine z_putrF (pc := 227) hG hnam zc_X11 inX11 tyX11 tyX11_ok nmX11 (i := 42) (fl := [(0, 0), (1, 43), (0, 0), (0, 0), (0, 0), (0, 0), (0, 0), (0, 0), (0, 0), (0, 0), (1, 44), (1, 45), (1, 46), (1, 47), (1, 48), (1, 49), (0, 0), (0, 0), (0, 0), (0, 0), (1, 50), (1, 51), (1, 52), (1, 53), (1, 54), (1, 55), (1, 56), (1, 57), (1, 58), (0, 0), (1, 59), (1, 60), (0, 0), (1, 61), (1, 62), (1, 63), (0, 0), (1, 64), (1, 65), (3, 0), (3, 0), (3, 0), (0, 0), (3, 0), (3, 0), (3, 0), (0, 0)]) (q := (1, 66)) (by decide +kernel) 39 (by decide) (by decide) rfl (fun _ => rfl) w1490 rfl rfl (fun _ => rfl) (fun _ => rfl) (dl' := zE_144) rfl dX11_init_227 ?_
  refine z_aload_n (pc := 230) hG 0 rfl rfl dX11_init_230 ?_
  refine z_bipush (pc := 231) hG kb_40 dX11_init_231 ?_
  refine z_newa (A' := 4) (B' := 125) (atype := .int) (t := 0) (N := 40) (z := (40, .inl (fun _ => 0))) (pc := 233) hG wa_int rfl (fun _ => rfl) rfl (fun _ _ => Iff.rfl) (i := 67) (by decide +kernel) (by decide) (by decide +kernel) (fun _ _ => rfl) (fun _ => rfl) (by decide) rfl (Nat.le_of_ble_eq_true rfl) rfl rfl (dl' := zE_145) rfl rfl rfl dX11_init_233 ?_
  refine z_putrF (pc := 235) hG hnam zc_X11 inX11 tyX11 tyX11_ok nmX11 (i := 42) (fl := [(0, 0), (1, 43), (0, 0), (0, 0), (0, 0), (0, 0), (0, 0), (0, 0), (0, 0), (0, 0), (1, 44), (1, 45), (1, 46), (1, 47), (1, 48), (1, 49), (0, 0), (0, 0), (0, 0), (0, 0), (1, 50), (1, 51), (1, 52), (1, 53), (1, 54), (1, 55), (1, 56), (1, 57), (1, 58), (0, 0), (1, 59), (1, 60), (0, 0), (1, 61), (1, 62), (1, 63), (0, 0), (1, 64), (1, 65), (1, 66), (3, 0), (3, 0), (0, 0), (3, 0), (3, 0), (3, 0), (0, 0)]) (q := (1, 67)) (by decide +kernel) 40 (by decide) (by decide) rfl (fun _ => rfl) w1491 rfl rfl (fun _ => rfl) (fun _ => rfl) (dl' := zE_146) rfl dX11_init_235 ?_
  refine z_aload_n (pc := 238) hG 0 rfl rfl dX11_init_238 ?_
  refine z_bipush (pc := 239) hG kb_40 dX11_init_239 ?_
  refine z_newa (A' := 3) (B' := 85) (atype := .int) (t := 0) (N := 40) (z := (40, .inl (fun _ => 0))) (pc := 241) hG wa_int rfl (fun _ => rfl) rfl (fun _ _ => Iff.rfl) (i := 68) (by decide +kernel) (by decide) (by decide +kernel) (fun _ _ => rfl) (fun _ => rfl) (by decide) rfl (Nat.le_of_ble_eq_true rfl) rfl rfl (dl' := zE_147) rfl rfl rfl dX11_init_241 ?_
  refine z_putrF (pc := 243) hG hnam zc_X11 inX11 tyX11 tyX11_ok nmX11 (i := 42) (fl := [(0, 0), (1, 43), (0, 0), (0, 0), (0, 0), (0, 0), (0, 0), (0, 0), (0, 0), (0, 0), (1, 44), (1, 45), (1, 46), (1, 47), (1, 48), (1, 49), (0, 0), (0, 0), (0, 0), (0, 0), (1, 50), (1, 51), (1, 52), (1, 53), (1, 54), (1, 55), (1, 56), (1, 57), (1, 58), (0, 0), (1, 59), (1, 60), (0, 0), (1, 61), (1, 62), (1, 63), (0, 0), (1, 64), (1, 65), (1, 66), (1, 67), (3, 0), (0, 0), (3, 0), (3, 0), (3, 0), (0, 0)]) (q := (1, 68)) (by decide +kernel) 41 (by decide) (by decide) rfl (fun _ => rfl) w1492 rfl rfl (fun _ => rfl) (fun _ => rfl) (dl' := zE_148) rfl dX11_init_243 ?_
  refine z_aload_n (pc := 246) hG 0 rfl rfl dX11_init_246 ?_
  refine z_bipush (pc := 247) hG kb_40 dX11_init_247 ?_
  refine z_newa (A' := 2) (B' := 45) (atype := .int) (t := 0) (N := 40) (z := (40, .inl (fun _ => 0))) (pc := 249) hG wa_int rfl (fun _ => rfl) rfl (fun _ _ => Iff.rfl) (i := 69) (by decide +kernel) (by decide) (by decide +kernel) (fun _ _ => rfl) (fun _ => rfl) (by decide) rfl (Nat.le_of_ble_eq_true rfl) rfl rfl (dl' := zE_149) rfl rfl rfl dX11_init_249 ?_
  refine z_putrF (pc := 251) hG hnam zc_X11 inX11 tyX11 tyX11_ok nmX11 (i := 42) (fl := [(0, 0), (1, 43), (0, 0), (0, 0), (0, 0), (0, 0), (0, 0), (0, 0), (0, 0), (0, 0), (1, 44), (1, 45), (1, 46), (1, 47), (1, 48), (1, 49), (0, 0), (0, 0), (0, 0), (0, 0), (1, 50), (1, 51), (1, 52), (1, 53), (1, 54), (1, 55), (1, 56), (1, 57), (1, 58), (0, 0), (1, 59), (1, 60), (0, 0), (1, 61), (1, 62), (1, 63), (0, 0), (1, 64), (1, 65), (1, 66), (1, 67), (1, 68), (0, 0), (3, 0), (3, 0), (3, 0), (0, 0)]) (q := (1, 69)) (by decide +kernel) 43 (by decide) (by decide) rfl (fun _ => rfl) w1494 rfl rfl (fun _ => rfl) (fun _ => rfl) (dl' := zE_150) rfl dX11_init_251 ?_
  refine z_aload_n (pc := 254) hG 0 rfl rfl dX11_init_254 ?_
  refine z_bipush (pc := 255) hG kb_40 dX11_init_255 ?_
  refine z_newa (A' := 1) (B' := 5) (atype := .int) (t := 0) (N := 40) (z := (40, .inl (fun _ => 0))) (pc := 257) hG wa_int rfl (fun _ => rfl) rfl (fun _ _ => Iff.rfl) (i := 70) (by decide +kernel) (by decide) (by decide +kernel) (fun _ _ => rfl) (fun _ => rfl) (by decide) rfl (Nat.le_of_ble_eq_true rfl) rfl rfl (dl' := zE_151) rfl rfl rfl dX11_init_257 ?_
  refine z_putrF (pc := 259) hG hnam zc_X11 inX11 tyX11 tyX11_ok nmX11 (i := 42) (fl := [(0, 0), (1, 43), (0, 0), (0, 0), (0, 0), (0, 0), (0, 0), (0, 0), (0, 0), (0, 0), (1, 44), (1, 45), (1, 46), (1, 47), (1, 48), (1, 49), (0, 0), (0, 0), (0, 0), (0, 0), (1, 50), (1, 51), (1, 52), (1, 53), (1, 54), (1, 55), (1, 56), (1, 57), (1, 58), (0, 0), (1, 59), (1, 60), (0, 0), (1, 61), (1, 62), (1, 63), (0, 0), (1, 64), (1, 65), (1, 66), (1, 67), (1, 68), (0, 0), (1, 69), (3, 0), (3, 0), (0, 0)]) (q := (1, 70)) (by decide +kernel) 44 (by decide) (by decide) rfl (fun _ => rfl) w1495 rfl rfl (fun _ => rfl) (fun _ => rfl) (dl' := zE_152) rfl dX11_init_259 ?_
  refine z_aload_n (pc := 262) hG 0 rfl rfl dX11_init_262 ?_
  refine z_iconst (pc := 263) hG kc_5 dX11_init_263 ?_
  refine z_newa (A' := 0) (B' := 0) (atype := .int) (t := 0) (N := 5) (z := (5, .inl (fun _ => 0))) (pc := 264) hG wa_int rfl (fun _ => rfl) rfl (fun _ _ => Iff.rfl) (i := 71) (by decide +kernel) (by decide) (by decide +kernel) (fun _ _ => rfl) (fun _ => rfl) (by decide) rfl (Nat.le_of_ble_eq_true rfl) rfl rfl (dl' := zE_153) rfl rfl rfl dX11_init_264 ?_
  refine z_putrF (pc := 266) hG hnam zc_X11 inX11 tyX11 tyX11_ok nmX11 (i := 42) (fl := [(0, 0), (1, 43), (0, 0), (0, 0), (0, 0), (0, 0), (0, 0), (0, 0), (0, 0), (0, 0), (1, 44), (1, 45), (1, 46), (1, 47), (1, 48), (1, 49), (0, 0), (0, 0), (0, 0), (0, 0), (1, 50), (1, 51), (1, 52), (1, 53), (1, 54), (1, 55), (1, 56), (1, 57), (1, 58), (0, 0), (1, 59), (1, 60), (0, 0), (1, 61), (1, 62), (1, 63), (0, 0), (1, 64), (1, 65), (1, 66), (1, 67), (1, 68), (0, 0), (1, 69), (1, 70), (3, 0), (0, 0)]) (q := (1, 71)) (by decide +kernel) 45 (by decide) (by decide) rfl (fun _ => rfl) w1496 rfl rfl (fun _ => rfl) (fun _ => rfl) (dl' := zE_154) rfl dX11_init_266 ?_
  refine z_aload_n (pc := 269) hG 0 rfl rfl dX11_init_269 ?_
  refine (zE_m ▸ ?_ : zK x 2 270 [(0, .ref 42)] [.ref 42] zE_154 (zi (zi (zi (zi (zi (zi (zi (zi (zi (zi (zi (zi zS0 3 6 (-1 : Int32)) 11 6 (-1 : Int32)) 0 11 (0 : Int32)) 0 12 (-1 : Int32)) 42 5 (-1 : Int32)) 42 19 (-1 : Int32)) 58 ((0 : Int32)).toNatClampNeg (625 : Int32)) 58 ((1 : Int32)).toNatClampNeg (125 : Int32)) 58 ((2 : Int32)).toNatClampNeg (25 : Int32)) 58 ((3 : Int32)).toNatClampNeg (5 : Int32)) 58 ((4 : Int32)).toNatClampNeg (1 : Int32)) 42 29 (-1 : Int32)) 0 0)
  refine z_virt (v := none) (A' := 0) (B' := 0) (rest := []) (pc := 270) hG 72 [] zc_X11 DM_42 (tX11_lays_m hl0 (zi (zi (zi (zi (zi (zi (zi (zi (zi (zi (zi (zi zS0 3 6 (-1 : Int32)) 11 6 (-1 : Int32)) 0 11 (0 : Int32)) 0 12 (-1 : Int32)) 42 5 (-1 : Int32)) 42 19 (-1 : Int32)) 58 ((0 : Int32)).toNatClampNeg (625 : Int32)) 58 ((1 : Int32)).toNatClampNeg (125 : Int32)) 58 ((2 : Int32)).toNatClampNeg (25 : Int32)) 58 ((3 : Int32)).toNatClampNeg (5 : Int32)) 58 ((4 : Int32)).toNatClampNeg (1 : Int32)) 42 29 (-1 : Int32)) hlay) zy_X11_lays ⟨w1438, wp61⟩ w1436 dX11_init_270 rfl (Nat.le_of_ble_eq_true rfl) (by decide +kernel) (by decide +kernel) rfl rfl rfl rfl (Nat.le_of_ble_eq_true rfl) ?_
  exact z_vret (pc := 273) hG rfl hk dX11_init_273
