theorem dX10_feed_0 : decode cX10_feed 0 = .ok (.aload_n 0, 1) := by decide +kernel
theorem dX10_feed_1 : decode cX10_feed 1 = .ok (.getfield 10, 3) := by decide +kernel
theorem dX10_feed_4 : decode cX10_feed 4 = .ok (.bipush 20, 2) := by decide +kernel
theorem dX10_feed_6 : decode cX10_feed 6 = .ok (.invokevirtual 91, 3) := by decide +kernel
theorem dX10_feed_9 : decode cX10_feed 9 = .ok (.ifCond .ne 5, 3) := by decide +kernel
theorem dX10_feed_12 : decode cX10_feed 12 = .ok (.iconst (-1), 1) := by decide +kernel
theorem dX10_feed_13 : decode cX10_feed 13 = .ok (.ireturn, 1) := by decide +kernel
theorem dX10_feed_14 : decode cX10_feed 14 = .ok (.aload_n 0, 1) := by decide +kernel
theorem dX10_feed_15 : decode cX10_feed 15 = .ok (.getfield 10, 3) := by decide +kernel
theorem dX10_feed_18 : decode cX10_feed 18 = .ok (.iload_n 1, 1) := by decide +kernel
theorem dX10_feed_19 : decode cX10_feed 19 = .ok (.invokevirtual 95, 3) := by decide +kernel
theorem dX10_feed_22 : decode cX10_feed 22 = .ok (.aload_n 0, 1) := by decide +kernel
theorem dX10_feed_23 : decode cX10_feed 23 = .ok (.getfield 10, 3) := by decide +kernel
theorem dX10_feed_26 : decode cX10_feed 26 = .ok (.iload_n 2, 1) := by decide +kernel
theorem dX10_feed_27 : decode cX10_feed 27 = .ok (.invokevirtual 95, 3) := by decide +kernel
theorem dX10_feed_30 : decode cX10_feed 30 = .ok (.aload_n 0, 1) := by decide +kernel
theorem dX10_feed_31 : decode cX10_feed 31 = .ok (.getfield 10, 3) := by decide +kernel
theorem dX10_feed_34 : decode cX10_feed 34 = .ok (.iload_n 3, 1) := by decide +kernel
theorem dX10_feed_35 : decode cX10_feed 35 = .ok (.invokevirtual 95, 3) := by decide +kernel
theorem dX10_feed_38 : decode cX10_feed 38 = .ok (.aload_n 0, 1) := by decide +kernel
theorem dX10_feed_39 : decode cX10_feed 39 = .ok (.getfield 10, 3) := by decide +kernel
theorem dX10_feed_42 : decode cX10_feed 42 = .ok (.iload 4, 2) := by decide +kernel
theorem dX10_feed_44 : decode cX10_feed 44 = .ok (.invokevirtual 95, 3) := by decide +kernel
theorem dX10_feed_47 : decode cX10_feed 47 = .ok (.aload_n 0, 1) := by decide +kernel
theorem dX10_feed_48 : decode cX10_feed 48 = .ok (.getfield 10, 3) := by decide +kernel
theorem dX10_feed_51 : decode cX10_feed 51 = .ok (.iload 5, 2) := by decide +kernel
theorem dX10_feed_53 : decode cX10_feed 53 = .ok (.invokevirtual 95, 3) := by decide +kernel
theorem dX10_feed_56 : decode cX10_feed 56 = .ok (.aload_n 0, 1) := by decide +kernel
theorem dX10_feed_57 : decode cX10_feed 57 = .ok (.getfield 10, 3) := by decide +kernel
theorem dX10_feed_60 : decode cX10_feed 60 = .ok (.getfield 99, 3) := by decide +kernel
theorem dX10_feed_63 : decode cX10_feed 63 = .ok (.ireturn, 1) := by decide +kernel
theorem dX10_end_0 : decode cX10_end 0 = .ok (.iload_n 1, 1) := by decide +kernel
theorem dX10_end_1 : decode cX10_end 1 = .ok (.ifCond .lt 14, 3) := by decide +kernel
theorem dX10_end_4 : decode cX10_end 4 = .ok (.iload_n 1, 1) := by decide +kernel
theorem dX10_end_5 : decode cX10_end 5 = .ok (.aload_n 0, 1) := by decide +kernel
theorem dX10_end_6 : decode cX10_end 6 = .ok (.getfield 10, 3) := by decide +kernel
theorem dX10_end_9 : decode cX10_end 9 = .ok (.getfield 99, 3) := by decide +kernel
theorem dX10_end_12 : decode cX10_end 12 = .ok (.if_icmp .le 5, 3) := by decide +kernel
theorem dX10_end_15 : decode cX10_end 15 = .ok (.iconst 0, 1) := by decide +kernel
theorem dX10_end_16 : decode cX10_end 16 = .ok (.ireturn, 1) := by decide +kernel
theorem dX10_end_17 : decode cX10_end 17 = .ok (.aload_n 0, 1) := by decide +kernel
theorem dX10_end_18 : decode cX10_end 18 = .ok (.getfield 10, 3) := by decide +kernel
theorem dX10_end_21 : decode cX10_end 21 = .ok (.iload_n 1, 1) := by decide +kernel
theorem dX10_end_22 : decode cX10_end 22 = .ok (.putfield 99, 3) := by decide +kernel
theorem dX10_end_25 : decode cX10_end 25 = .ok (.iconst 1, 1) := by decide +kernel
theorem dX10_end_26 : decode cX10_end 26 = .ok (.ireturn, 1) := by decide +kernel
theorem dX10_read_0 : decode cX10_read 0 = .ok (.aload_n 0, 1) := by decide +kernel
theorem dX10_read_1 : decode cX10_read 1 = .ok (.getfield 31, 3) := by decide +kernel
theorem dX10_read_4 : decode cX10_read 4 = .ok (.invokevirtual 102, 3) := by decide +kernel
theorem dX10_read_7 : decode cX10_read 7 = .ok (.istore_n 1, 1) := by decide +kernel
theorem dX10_read_8 : decode cX10_read 8 = .ok (.aload_n 0, 1) := by decide +kernel
theorem dX10_read_9 : decode cX10_read 9 = .ok (.getfield 31, 3) := by decide +kernel
theorem dX10_read_12 : decode cX10_read 12 = .ok (.invokevirtual 106, 3) := by decide +kernel
theorem dX10_read_15 : decode cX10_read 15 = .ok (.istore_n 2, 1) := by decide +kernel
theorem dX10_read_16 : decode cX10_read 16 = .ok (.aload_n 0, 1) := by decide +kernel
theorem dX10_read_17 : decode cX10_read 17 = .ok (.getfield 10, 3) := by decide +kernel
theorem dX10_read_20 : decode cX10_read 20 = .ok (.iconst 0, 1) := by decide +kernel
theorem dX10_read_21 : decode cX10_read 21 = .ok (.putfield 99, 3) := by decide +kernel
theorem dX10_read_24 : decode cX10_read 24 = .ok (.iload_n 1, 1) := by decide +kernel
theorem dX10_read_25 : decode cX10_read 25 = .ok (.ifCond .ne 16, 3) := by decide +kernel
theorem dX10_read_28 : decode cX10_read 28 = .ok (.aload_n 0, 1) := by decide +kernel
theorem dX10_read_29 : decode cX10_read 29 = .ok (.iload_n 2, 1) := by decide +kernel
theorem dX10_read_30 : decode cX10_read 30 = .ok (.putfield 88, 3) := by decide +kernel
theorem dX10_read_33 : decode cX10_read 33 = .ok (.new 110, 3) := by decide +kernel
theorem dX10_read_36 : decode cX10_read 36 = .ok (.dup, 1) := by decide +kernel
theorem dX10_read_37 : decode cX10_read 37 = .ok (.invokespecial 112, 3) := by decide +kernel
theorem dX10_read_40 : decode cX10_read 40 = .ok (.athrow, 1) := by decide +kernel
theorem dX10_read_41 : decode cX10_read 41 = .ok (.aload_n 0, 1) := by decide +kernel
theorem dX10_read_42 : decode cX10_read 42 = .ok (.iconst (-1), 1) := by decide +kernel
theorem dX10_read_43 : decode cX10_read 43 = .ok (.putfield 88, 3) := by decide +kernel
theorem dX10_read_46 : decode cX10_read 46 = .ok (.aload_n 0, 1) := by decide +kernel
theorem dX10_read_47 : decode cX10_read 47 = .ok (.getfield 19, 3) := by decide +kernel
theorem dX10_read_50 : decode cX10_read 50 = .ok (.aload_n 0, 1) := by decide +kernel
theorem dX10_read_51 : decode cX10_read 51 = .ok (.getfield 23, 3) := by decide +kernel
theorem dX10_read_54 : decode cX10_read 54 = .ok (.invokevirtual 113, 3) := by decide +kernel
theorem dX10_read_57 : decode cX10_read 57 = .ok (.aload_n 0, 1) := by decide +kernel
theorem dX10_read_58 : decode cX10_read 58 = .ok (.getfield 40, 3) := by decide +kernel
theorem dX10_read_61 : decode cX10_read 61 = .ok (.invokevirtual 116, 3) := by decide +kernel
theorem dX10_read_64 : decode cX10_read 64 = .ok (.aload_n 0, 1) := by decide +kernel
theorem dX10_read_65 : decode cX10_read 65 = .ok (.getfield 49, 3) := by decide +kernel
theorem dX10_read_68 : decode cX10_read 68 = .ok (.invokevirtual 119, 3) := by decide +kernel
theorem dX10_read_71 : decode cX10_read 71 = .ok (.aload_n 0, 1) := by decide +kernel
theorem dX10_read_72 : decode cX10_read 72 = .ok (.getfield 56, 3) := by decide +kernel
theorem dX10_read_75 : decode cX10_read 75 = .ok (.aload_n 0, 1) := by decide +kernel
theorem dX10_read_76 : decode cX10_read 76 = .ok (.getfield 19, 3) := by decide +kernel
theorem dX10_read_79 : decode cX10_read 79 = .ok (.invokevirtual 122, 3) := by decide +kernel
theorem dX10_read_82 : decode cX10_read 82 = .ok (.aload_n 0, 1) := by decide +kernel
theorem dX10_read_83 : decode cX10_read 83 = .ok (.getfield 56, 3) := by decide +kernel
theorem dX10_read_86 : decode cX10_read 86 = .ok (.getfield 125, 3) := by decide +kernel
theorem dX10_read_89 : decode cX10_read 89 = .ok (.ireturn, 1) := by decide +kernel
theorem dX10_needField_0 : decode cX10_needField 0 = .ok (.iload_n 1, 1) := by decide +kernel
theorem dX10_needField_1 : decode cX10_needField 1 = .ok (.ifCond .lt 14, 3) := by decide +kernel
theorem dX10_needField_4 : decode cX10_needField 4 = .ok (.iload_n 1, 1) := by decide +kernel
theorem dX10_needField_5 : decode cX10_needField 5 = .ok (.aload_n 0, 1) := by decide +kernel
theorem dX10_needField_6 : decode cX10_needField 6 = .ok (.getfield 19, 3) := by decide +kernel
theorem dX10_needField_9 : decode cX10_needField 9 = .ok (.getfield 183, 3) := by decide +kernel
theorem dX10_needField_12 : decode cX10_needField 12 = .ok (.if_icmp .lt 11, 3) := by decide +kernel
theorem dX10_needField_15 : decode cX10_needField 15 = .ok (.new 376, 3) := by decide +kernel
theorem dX10_needField_18 : decode cX10_needField 18 = .ok (.dup, 1) := by decide +kernel
theorem dX10_needField_19 : decode cX10_needField 19 = .ok (.invokespecial 378, 3) := by decide +kernel
theorem dX10_needField_22 : decode cX10_needField 22 = .ok (.athrow, 1) := by decide +kernel
theorem dX10_needField_23 : decode cX10_needField 23 = .ok (.return_, 1) := by decide +kernel
theorem dX10_field_0 : decode cX10_field 0 = .ok (.aload_n 0, 1) := by decide +kernel
theorem dX10_field_1 : decode cX10_field 1 = .ok (.iload_n 1, 1) := by decide +kernel
theorem dX10_field_2 : decode cX10_field 2 = .ok (.invokevirtual 128, 3) := by decide +kernel
theorem dX10_field_5 : decode cX10_field 5 = .ok (.iload_n 2, 1) := by decide +kernel
theorem dX10_field_6 : decode cX10_field 6 = .ok (.tableswitch 77 0 3 #[30, 40, 50, 60], 30) := by decide +kernel
theorem dX10_field_36 : decode cX10_field 36 = .ok (.aload_n 0, 1) := by decide +kernel
theorem dX10_field_37 : decode cX10_field 37 = .ok (.getfield 19, 3) := by decide +kernel
theorem dX10_field_40 : decode cX10_field 40 = .ok (.getfield 131, 3) := by decide +kernel
theorem dX10_field_43 : decode cX10_field 43 = .ok (.iload_n 1, 1) := by decide +kernel
theorem dX10_field_44 : decode cX10_field 44 = .ok (.iaload, 1) := by decide +kernel
theorem dX10_field_45 : decode cX10_field 45 = .ok (.ireturn, 1) := by decide +kernel
theorem dX10_field_46 : decode cX10_field 46 = .ok (.aload_n 0, 1) := by decide +kernel
theorem dX10_field_47 : decode cX10_field 47 = .ok (.getfield 19, 3) := by decide +kernel
theorem dX10_field_50 : decode cX10_field 50 = .ok (.getfield 134, 3) := by decide +kernel
theorem dX10_field_53 : decode cX10_field 53 = .ok (.iload_n 1, 1) := by decide +kernel
theorem dX10_field_54 : decode cX10_field 54 = .ok (.iaload, 1) := by decide +kernel
theorem dX10_field_55 : decode cX10_field 55 = .ok (.ireturn, 1) := by decide +kernel
theorem dX10_field_56 : decode cX10_field 56 = .ok (.aload_n 0, 1) := by decide +kernel
theorem dX10_field_57 : decode cX10_field 57 = .ok (.getfield 19, 3) := by decide +kernel
theorem dX10_field_60 : decode cX10_field 60 = .ok (.getfield 137, 3) := by decide +kernel
theorem dX10_field_63 : decode cX10_field 63 = .ok (.iload_n 1, 1) := by decide +kernel
theorem dX10_field_64 : decode cX10_field 64 = .ok (.iaload, 1) := by decide +kernel
theorem dX10_field_65 : decode cX10_field 65 = .ok (.ireturn, 1) := by decide +kernel
theorem dX10_field_66 : decode cX10_field 66 = .ok (.aload_n 0, 1) := by decide +kernel
theorem dX10_field_67 : decode cX10_field 67 = .ok (.getfield 19, 3) := by decide +kernel
theorem dX10_field_70 : decode cX10_field 70 = .ok (.getfield 140, 3) := by decide +kernel
theorem dX10_field_73 : decode cX10_field 73 = .ok (.iload_n 1, 1) := by decide +kernel
theorem dX10_field_74 : decode cX10_field 74 = .ok (.if_icmp .ne 7, 3) := by decide +kernel
theorem dX10_field_77 : decode cX10_field 77 = .ok (.iconst 1, 1) := by decide +kernel
theorem dX10_field_78 : decode cX10_field 78 = .ok (.goto 4, 3) := by decide +kernel
theorem dX10_field_81 : decode cX10_field 81 = .ok (.iconst 0, 1) := by decide +kernel
theorem dX10_field_82 : decode cX10_field 82 = .ok (.ireturn, 1) := by decide +kernel
theorem dX10_field_83 : decode cX10_field 83 = .ok (.new 143, 3) := by decide +kernel
theorem dX10_field_86 : decode cX10_field 86 = .ok (.dup, 1) := by decide +kernel
theorem dX10_field_87 : decode cX10_field 87 = .ok (.invokespecial 145, 3) := by decide +kernel
theorem dX10_field_90 : decode cX10_field 90 = .ok (.athrow, 1) := by decide +kernel
theorem dX10_tried_0 : decode cX10_tried 0 = .ok (.iload_n 1, 1) := by decide +kernel
theorem dX10_tried_1 : decode cX10_tried 1 = .ok (.aload_n 0, 1) := by decide +kernel
theorem dX10_tried_2 : decode cX10_tried 2 = .ok (.getfield 19, 3) := by decide +kernel
theorem dX10_tried_5 : decode cX10_tried 5 = .ok (.getfield 183, 3) := by decide +kernel
theorem dX10_tried_8 : decode cX10_tried 8 = .ok (.invokestatic 186, 3) := by decide +kernel
theorem dX10_tried_11 : decode cX10_tried 11 = .ok (.istore_n 2, 1) := by decide +kernel
theorem dX10_tried_12 : decode cX10_tried 12 = .ok (.iload_n 2, 1) := by decide +kernel
theorem dX10_tried_13 : decode cX10_tried 13 = .ok (.iconst (-1), 1) := by decide +kernel
theorem dX10_tried_14 : decode cX10_tried 14 = .ok (.if_icmp .eq 14, 3) := by decide +kernel
theorem dX10_tried_17 : decode cX10_tried 17 = .ok (.aload_n 0, 1) := by decide +kernel
theorem dX10_tried_18 : decode cX10_tried 18 = .ok (.getfield 19, 3) := by decide +kernel
theorem dX10_tried_21 : decode cX10_tried 21 = .ok (.iload_n 2, 1) := by decide +kernel
theorem dX10_tried_22 : decode cX10_tried 22 = .ok (.invokevirtual 191, 3) := by decide +kernel
theorem dX10_tried_25 : decode cX10_tried 25 = .ok (.ifCond .ne 11, 3) := by decide +kernel
theorem dX10_tried_28 : decode cX10_tried 28 = .ok (.new 110, 3) := by decide +kernel
theorem dX10_tried_31 : decode cX10_tried 31 = .ok (.dup, 1) := by decide +kernel
theorem dX10_tried_32 : decode cX10_tried 32 = .ok (.invokespecial 112, 3) := by decide +kernel
theorem dX10_tried_35 : decode cX10_tried 35 = .ok (.athrow, 1) := by decide +kernel
theorem dX10_tried_36 : decode cX10_tried 36 = .ok (.aload_n 0, 1) := by decide +kernel
theorem dX10_tried_37 : decode cX10_tried 37 = .ok (.getfield 40, 3) := by decide +kernel
theorem dX10_tried_40 : decode cX10_tried 40 = .ok (.iload_n 2, 1) := by decide +kernel
theorem dX10_tried_41 : decode cX10_tried 41 = .ok (.invokevirtual 194, 3) := by decide +kernel
theorem dX10_tried_44 : decode cX10_tried 44 = .ok (.ireturn, 1) := by decide +kernel
theorem dX10_needRow_0 : decode cX10_needRow 0 = .ok (.iload_n 1, 1) := by decide +kernel
theorem dX10_needRow_1 : decode cX10_needRow 1 = .ok (.ifCond .lt 14, 3) := by decide +kernel
theorem dX10_needRow_4 : decode cX10_needRow 4 = .ok (.iload_n 1, 1) := by decide +kernel
theorem dX10_needRow_5 : decode cX10_needRow 5 = .ok (.aload_n 0, 1) := by decide +kernel
theorem dX10_needRow_6 : decode cX10_needRow 6 = .ok (.getfield 56, 3) := by decide +kernel
theorem dX10_needRow_9 : decode cX10_needRow 9 = .ok (.getfield 125, 3) := by decide +kernel
theorem dX10_needRow_12 : decode cX10_needRow 12 = .ok (.if_icmp .lt 11, 3) := by decide +kernel
theorem dX10_needRow_15 : decode cX10_needRow 15 = .ok (.new 376, 3) := by decide +kernel
theorem dX10_needRow_18 : decode cX10_needRow 18 = .ok (.dup, 1) := by decide +kernel
theorem dX10_needRow_19 : decode cX10_needRow 19 = .ok (.invokespecial 378, 3) := by decide +kernel
theorem dX10_needRow_22 : decode cX10_needRow 22 = .ok (.athrow, 1) := by decide +kernel
theorem dX10_needRow_23 : decode cX10_needRow 23 = .ok (.return_, 1) := by decide +kernel
theorem dX10_answer_0 : decode cX10_answer 0 = .ok (.aload_n 0, 1) := by decide +kernel
theorem dX10_answer_1 : decode cX10_answer 1 = .ok (.iload_n 1, 1) := by decide +kernel
theorem dX10_answer_2 : decode cX10_answer 2 = .ok (.invokevirtual 197, 3) := by decide +kernel
theorem dX10_answer_5 : decode cX10_answer 5 = .ok (.aload_n 0, 1) := by decide +kernel
theorem dX10_answer_6 : decode cX10_answer 6 = .ok (.iload_n 2, 1) := by decide +kernel
theorem dX10_answer_7 : decode cX10_answer 7 = .ok (.invokevirtual 128, 3) := by decide +kernel
theorem dX10_answer_10 : decode cX10_answer 10 = .ok (.aload_n 0, 1) := by decide +kernel
theorem dX10_answer_11 : decode cX10_answer 11 = .ok (.getfield 56, 3) := by decide +kernel
theorem dX10_answer_14 : decode cX10_answer 14 = .ok (.iload_n 1, 1) := by decide +kernel
theorem dX10_answer_15 : decode cX10_answer 15 = .ok (.invokevirtual 200, 3) := by decide +kernel
theorem dX10_answer_18 : decode cX10_answer 18 = .ok (.iload_n 2, 1) := by decide +kernel
theorem dX10_answer_19 : decode cX10_answer 19 = .ok (.invokestatic 203, 3) := by decide +kernel
theorem dX10_answer_22 : decode cX10_answer 22 = .ok (.ireturn, 1) := by decide +kernel
theorem dX10_needAnswers_0 : decode cX10_needAnswers 0 = .ok (.aload_n 0, 1) := by decide +kernel
theorem dX10_needAnswers_1 : decode cX10_needAnswers 1 = .ok (.getfield 56, 3) := by decide +kernel
theorem dX10_needAnswers_4 : decode cX10_needAnswers 4 = .ok (.iload_n 1, 1) := by decide +kernel
theorem dX10_needAnswers_5 : decode cX10_needAnswers 5 = .ok (.invokevirtual 200, 3) := by decide +kernel
theorem dX10_needAnswers_8 : decode cX10_needAnswers 8 = .ok (.aload_n 0, 1) := by decide +kernel
theorem dX10_needAnswers_9 : decode cX10_needAnswers 9 = .ok (.getfield 19, 3) := by decide +kernel
theorem dX10_needAnswers_12 : decode cX10_needAnswers 12 = .ok (.getfield 183, 3) := by decide +kernel
theorem dX10_needAnswers_15 : decode cX10_needAnswers 15 = .ok (.invokestatic 319, 3) := by decide +kernel
theorem dX10_needAnswers_18 : decode cX10_needAnswers 18 = .ok (.iload_n 2, 1) := by decide +kernel
theorem dX10_needAnswers_19 : decode cX10_needAnswers 19 = .ok (.iconst (-1), 1) := by decide +kernel
theorem dX10_needAnswers_20 : decode cX10_needAnswers 20 = .ok (.ixor, 1) := by decide +kernel
theorem dX10_needAnswers_21 : decode cX10_needAnswers 21 = .ok (.iand, 1) := by decide +kernel
theorem dX10_needAnswers_22 : decode cX10_needAnswers 22 = .ok (.ifCond .eq 11, 3) := by decide +kernel
theorem dX10_needAnswers_25 : decode cX10_needAnswers 25 = .ok (.new 220, 3) := by decide +kernel
theorem dX10_needAnswers_28 : decode cX10_needAnswers 28 = .ok (.dup, 1) := by decide +kernel
theorem dX10_needAnswers_29 : decode cX10_needAnswers 29 = .ok (.invokespecial 222, 3) := by decide +kernel
theorem dX10_needAnswers_32 : decode cX10_needAnswers 32 = .ok (.athrow, 1) := by decide +kernel
theorem dX10_needAnswers_33 : decode cX10_needAnswers 33 = .ok (.return_, 1) := by decide +kernel
theorem dX10_needSet_0 : decode cX10_needSet 0 = .ok (.iload_n 1, 1) := by decide +kernel
theorem dX10_needSet_1 : decode cX10_needSet 1 = .ok (.ifCond .lt 14, 3) := by decide +kernel
theorem dX10_needSet_4 : decode cX10_needSet 4 = .ok (.iload_n 1, 1) := by decide +kernel
theorem dX10_needSet_5 : decode cX10_needSet 5 = .ok (.aload_n 0, 1) := by decide +kernel
theorem dX10_needSet_6 : decode cX10_needSet 6 = .ok (.getfield 19, 3) := by decide +kernel
theorem dX10_needSet_9 : decode cX10_needSet 9 = .ok (.invokevirtual 370, 3) := by decide +kernel
theorem dX10_needSet_12 : decode cX10_needSet 12 = .ok (.if_icmp .le 11, 3) := by decide +kernel
theorem dX10_needSet_15 : decode cX10_needSet 15 = .ok (.new 110, 3) := by decide +kernel
theorem dX10_needSet_18 : decode cX10_needSet 18 = .ok (.dup, 1) := by decide +kernel
theorem dX10_needSet_19 : decode cX10_needSet 19 = .ok (.invokespecial 112, 3) := by decide +kernel
theorem dX10_needSet_22 : decode cX10_needSet 22 = .ok (.athrow, 1) := by decide +kernel
theorem dX10_needSet_23 : decode cX10_needSet 23 = .ok (.return_, 1) := by decide +kernel
theorem dX10_mends_0 : decode cX10_mends 0 = .ok (.aload_n 0, 1) := by decide +kernel
theorem dX10_mends_1 : decode cX10_mends 1 = .ok (.iload_n 1, 1) := by decide +kernel
theorem dX10_mends_2 : decode cX10_mends 2 = .ok (.invokevirtual 197, 3) := by decide +kernel
theorem dX10_mends_5 : decode cX10_mends 5 = .ok (.aload_n 0, 1) := by decide +kernel
theorem dX10_mends_6 : decode cX10_mends 6 = .ok (.iload_n 2, 1) := by decide +kernel
theorem dX10_mends_7 : decode cX10_mends 7 = .ok (.invokevirtual 238, 3) := by decide +kernel
theorem dX10_mends_10 : decode cX10_mends 10 = .ok (.aload_n 0, 1) := by decide +kernel
theorem dX10_mends_11 : decode cX10_mends 11 = .ok (.getfield 40, 3) := by decide +kernel
theorem dX10_mends_14 : decode cX10_mends 14 = .ok (.aload_n 0, 1) := by decide +kernel
theorem dX10_mends_15 : decode cX10_mends 15 = .ok (.getfield 56, 3) := by decide +kernel
theorem dX10_mends_18 : decode cX10_mends 18 = .ok (.iload_n 1, 1) := by decide +kernel
theorem dX10_mends_19 : decode cX10_mends 19 = .ok (.invokevirtual 200, 3) := by decide +kernel
theorem dX10_mends_22 : decode cX10_mends 22 = .ok (.iload_n 2, 1) := by decide +kernel
theorem dX10_mends_23 : decode cX10_mends 23 = .ok (.invokevirtual 241, 3) := by decide +kernel
theorem dX10_mends_26 : decode cX10_mends 26 = .ok (.ireturn, 1) := by decide +kernel
theorem dX10_ways_0 : decode cX10_ways 0 = .ok (.aload_n 0, 1) := by decide +kernel
theorem dX10_ways_1 : decode cX10_ways 1 = .ok (.iload_n 1, 1) := by decide +kernel
theorem dX10_ways_2 : decode cX10_ways 2 = .ok (.invokevirtual 197, 3) := by decide +kernel
theorem dX10_ways_5 : decode cX10_ways 5 = .ok (.aload_n 0, 1) := by decide +kernel
theorem dX10_ways_6 : decode cX10_ways 6 = .ok (.iload_n 2, 1) := by decide +kernel
theorem dX10_ways_7 : decode cX10_ways 7 = .ok (.invokevirtual 238, 3) := by decide +kernel
theorem dX10_ways_10 : decode cX10_ways 10 = .ok (.aload_n 0, 1) := by decide +kernel
theorem dX10_ways_11 : decode cX10_ways 11 = .ok (.getfield 40, 3) := by decide +kernel
theorem dX10_ways_14 : decode cX10_ways 14 = .ok (.aload_n 0, 1) := by decide +kernel
theorem dX10_ways_15 : decode cX10_ways 15 = .ok (.getfield 56, 3) := by decide +kernel
theorem dX10_ways_18 : decode cX10_ways 18 = .ok (.iload_n 1, 1) := by decide +kernel
theorem dX10_ways_19 : decode cX10_ways 19 = .ok (.invokevirtual 200, 3) := by decide +kernel
theorem dX10_ways_22 : decode cX10_ways 22 = .ok (.iload_n 2, 1) := by decide +kernel
theorem dX10_ways_23 : decode cX10_ways 23 = .ok (.invokevirtual 245, 3) := by decide +kernel
theorem dX10_ways_26 : decode cX10_ways 26 = .ok (.ireturn, 1) := by decide +kernel
theorem dX10_least_0 : decode cX10_least 0 = .ok (.aload_n 0, 1) := by decide +kernel
theorem dX10_least_1 : decode cX10_least 1 = .ok (.iload_n 1, 1) := by decide +kernel
theorem dX10_least_2 : decode cX10_least 2 = .ok (.invokevirtual 197, 3) := by decide +kernel
theorem dX10_least_5 : decode cX10_least 5 = .ok (.aload_n 0, 1) := by decide +kernel
theorem dX10_least_6 : decode cX10_least 6 = .ok (.getfield 56, 3) := by decide +kernel
theorem dX10_least_9 : decode cX10_least 9 = .ok (.iload_n 1, 1) := by decide +kernel
theorem dX10_least_10 : decode cX10_least 10 = .ok (.invokevirtual 200, 3) := by decide +kernel
theorem dX10_least_13 : decode cX10_least 13 = .ok (.istore_n 3, 1) := by decide +kernel
theorem dX10_least_14 : decode cX10_least 14 = .ok (.iload_n 2, 1) := by decide +kernel
theorem dX10_least_15 : decode cX10_least 15 = .ok (.tableswitch 52 0 2 #[25, 34, 43], 25) := by decide +kernel
theorem dX10_least_40 : decode cX10_least 40 = .ok (.aload_n 0, 1) := by decide +kernel
theorem dX10_least_41 : decode cX10_least 41 = .ok (.getfield 40, 3) := by decide +kernel
theorem dX10_least_44 : decode cX10_least 44 = .ok (.iload_n 3, 1) := by decide +kernel
theorem dX10_least_45 : decode cX10_least 45 = .ok (.invokevirtual 248, 3) := by decide +kernel
theorem dX10_least_48 : decode cX10_least 48 = .ok (.ireturn, 1) := by decide +kernel
theorem dX10_least_49 : decode cX10_least 49 = .ok (.aload_n 0, 1) := by decide +kernel
theorem dX10_least_50 : decode cX10_least 50 = .ok (.getfield 40, 3) := by decide +kernel
theorem dX10_least_53 : decode cX10_least 53 = .ok (.iload_n 3, 1) := by decide +kernel
theorem dX10_least_54 : decode cX10_least 54 = .ok (.invokevirtual 251, 3) := by decide +kernel
theorem dX10_least_57 : decode cX10_least 57 = .ok (.ireturn, 1) := by decide +kernel
theorem dX10_least_58 : decode cX10_least 58 = .ok (.aload_n 0, 1) := by decide +kernel
theorem dX10_least_59 : decode cX10_least 59 = .ok (.getfield 40, 3) := by decide +kernel
theorem dX10_least_62 : decode cX10_least 62 = .ok (.iload_n 3, 1) := by decide +kernel
theorem dX10_least_63 : decode cX10_least 63 = .ok (.invokevirtual 254, 3) := by decide +kernel
theorem dX10_least_66 : decode cX10_least 66 = .ok (.ireturn, 1) := by decide +kernel
theorem dX10_least_67 : decode cX10_least 67 = .ok (.new 143, 3) := by decide +kernel
theorem dX10_least_70 : decode cX10_least 70 = .ok (.dup, 1) := by decide +kernel
theorem dX10_least_71 : decode cX10_least 71 = .ok (.invokespecial 145, 3) := by decide +kernel
theorem dX10_least_74 : decode cX10_least 74 = .ok (.athrow, 1) := by decide +kernel
theorem dX10_leastOf_0 : decode cX10_leastOf 0 = .ok (.aload_n 0, 1) := by decide +kernel
theorem dX10_leastOf_1 : decode cX10_leastOf 1 = .ok (.iload_n 1, 1) := by decide +kernel
theorem dX10_leastOf_2 : decode cX10_leastOf 2 = .ok (.invokevirtual 197, 3) := by decide +kernel
theorem dX10_leastOf_5 : decode cX10_leastOf 5 = .ok (.aload_n 0, 1) := by decide +kernel
theorem dX10_leastOf_6 : decode cX10_leastOf 6 = .ok (.getfield 40, 3) := by decide +kernel
theorem dX10_leastOf_9 : decode cX10_leastOf 9 = .ok (.aload_n 0, 1) := by decide +kernel
theorem dX10_leastOf_10 : decode cX10_leastOf 10 = .ok (.getfield 56, 3) := by decide +kernel
theorem dX10_leastOf_13 : decode cX10_leastOf 13 = .ok (.iload_n 1, 1) := by decide +kernel
theorem dX10_leastOf_14 : decode cX10_leastOf 14 = .ok (.invokevirtual 200, 3) := by decide +kernel
theorem dX10_leastOf_17 : decode cX10_leastOf 17 = .ok (.iload_n 2, 1) := by decide +kernel
theorem dX10_leastOf_18 : decode cX10_leastOf 18 = .ok (.invokevirtual 257, 3) := by decide +kernel
theorem dX10_leastOf_21 : decode cX10_leastOf 21 = .ok (.ireturn, 1) := by decide +kernel
theorem dX10_values_0 : decode cX10_values 0 = .ok (.aload_n 0, 1) := by decide +kernel
theorem dX10_values_1 : decode cX10_values 1 = .ok (.iload_n 1, 1) := by decide +kernel
theorem dX10_values_2 : decode cX10_values 2 = .ok (.invokevirtual 197, 3) := by decide +kernel
theorem dX10_values_5 : decode cX10_values 5 = .ok (.aload_n 0, 1) := by decide +kernel
theorem dX10_values_6 : decode cX10_values 6 = .ok (.iload_n 3, 1) := by decide +kernel
theorem dX10_values_7 : decode cX10_values 7 = .ok (.invokevirtual 128, 3) := by decide +kernel
theorem dX10_values_10 : decode cX10_values 10 = .ok (.aload_n 0, 1) := by decide +kernel
theorem dX10_values_11 : decode cX10_values 11 = .ok (.iload_n 2, 1) := by decide +kernel
theorem dX10_values_12 : decode cX10_values 12 = .ok (.invokevirtual 238, 3) := by decide +kernel
theorem dX10_values_15 : decode cX10_values 15 = .ok (.aload_n 0, 1) := by decide +kernel
theorem dX10_values_16 : decode cX10_values 16 = .ok (.getfield 40, 3) := by decide +kernel
theorem dX10_values_19 : decode cX10_values 19 = .ok (.aload_n 0, 1) := by decide +kernel
theorem dX10_values_20 : decode cX10_values 20 = .ok (.getfield 56, 3) := by decide +kernel
theorem dX10_values_23 : decode cX10_values 23 = .ok (.iload_n 1, 1) := by decide +kernel
theorem dX10_values_24 : decode cX10_values 24 = .ok (.invokevirtual 200, 3) := by decide +kernel
theorem dX10_values_27 : decode cX10_values 27 = .ok (.iload_n 2, 1) := by decide +kernel
theorem dX10_values_28 : decode cX10_values 28 = .ok (.iload_n 3, 1) := by decide +kernel
theorem dX10_values_29 : decode cX10_values 29 = .ok (.invokevirtual 229, 3) := by decide +kernel
theorem dX10_values_32 : decode cX10_values 32 = .ok (.ireturn, 1) := by decide +kernel
theorem dX10_forced_0 : decode cX10_forced 0 = .ok (.aload_n 0, 1) := by decide +kernel
theorem dX10_forced_1 : decode cX10_forced 1 = .ok (.iload_n 1, 1) := by decide +kernel
theorem dX10_forced_2 : decode cX10_forced 2 = .ok (.invokevirtual 197, 3) := by decide +kernel
theorem dX10_forced_5 : decode cX10_forced 5 = .ok (.aload_n 0, 1) := by decide +kernel
theorem dX10_forced_6 : decode cX10_forced 6 = .ok (.getfield 40, 3) := by decide +kernel
theorem dX10_forced_9 : decode cX10_forced 9 = .ok (.aload_n 0, 1) := by decide +kernel
theorem dX10_forced_10 : decode cX10_forced 10 = .ok (.getfield 56, 3) := by decide +kernel
theorem dX10_forced_13 : decode cX10_forced 13 = .ok (.iload_n 1, 1) := by decide +kernel
theorem dX10_forced_14 : decode cX10_forced 14 = .ok (.invokevirtual 200, 3) := by decide +kernel
theorem dX10_forced_17 : decode cX10_forced 17 = .ok (.invokevirtual 260, 3) := by decide +kernel
theorem dX10_forced_20 : decode cX10_forced 20 = .ok (.ireturn, 1) := by decide +kernel
theorem dX10_needWay_0 : decode cX10_needWay 0 = .ok (.iload_n 1, 1) := by decide +kernel
theorem dX10_needWay_1 : decode cX10_needWay 1 = .ok (.ifCond .lt 8, 3) := by decide +kernel
theorem dX10_needWay_4 : decode cX10_needWay 4 = .ok (.iload_n 1, 1) := by decide +kernel
theorem dX10_needWay_5 : decode cX10_needWay 5 = .ok (.iconst 2, 1) := by decide +kernel
theorem dX10_needWay_6 : decode cX10_needWay 6 = .ok (.if_icmp .le 11, 3) := by decide +kernel
theorem dX10_needWay_9 : decode cX10_needWay 9 = .ok (.new 110, 3) := by decide +kernel
theorem dX10_needWay_12 : decode cX10_needWay 12 = .ok (.dup, 1) := by decide +kernel
theorem dX10_needWay_13 : decode cX10_needWay 13 = .ok (.invokespecial 112, 3) := by decide +kernel
theorem dX10_needWay_16 : decode cX10_needWay 16 = .ok (.athrow, 1) := by decide +kernel
theorem dX10_needWay_17 : decode cX10_needWay 17 = .ok (.return_, 1) := by decide +kernel
theorem dX10_would_0 : decode cX10_would 0 = .ok (.aload_n 0, 1) := by decide +kernel
theorem dX10_would_1 : decode cX10_would 1 = .ok (.iload_n 1, 1) := by decide +kernel
theorem dX10_would_2 : decode cX10_would 2 = .ok (.invokevirtual 197, 3) := by decide +kernel
theorem dX10_would_5 : decode cX10_would 5 = .ok (.aload_n 0, 1) := by decide +kernel
theorem dX10_would_6 : decode cX10_would 6 = .ok (.iload_n 2, 1) := by decide +kernel
theorem dX10_would_7 : decode cX10_would 7 = .ok (.invokevirtual 275, 3) := by decide +kernel
theorem dX10_would_10 : decode cX10_would 10 = .ok (.aload_n 0, 1) := by decide +kernel
theorem dX10_would_11 : decode cX10_would 11 = .ok (.getfield 65, 3) := by decide +kernel
theorem dX10_would_14 : decode cX10_would 14 = .ok (.iload_n 1, 1) := by decide +kernel
theorem dX10_would_15 : decode cX10_would 15 = .ok (.iload_n 2, 1) := by decide +kernel
theorem dX10_would_16 : decode cX10_would 16 = .ok (.invokevirtual 278, 3) := by decide +kernel
theorem dX10_would_19 : decode cX10_would 19 = .ok (.istore_n 3, 1) := by decide +kernel
theorem dX10_would_20 : decode cX10_would 20 = .ok (.iload_n 3, 1) := by decide +kernel
theorem dX10_would_21 : decode cX10_would 21 = .ok (.iconst (-1), 1) := by decide +kernel
theorem dX10_would_22 : decode cX10_would 22 = .ok (.if_icmp .ne 7, 3) := by decide +kernel
theorem dX10_would_25 : decode cX10_would 25 = .ok (.iconst (-1), 1) := by decide +kernel
theorem dX10_would_26 : decode cX10_would 26 = .ok (.goto 14, 3) := by decide +kernel
theorem dX10_would_29 : decode cX10_would 29 = .ok (.iload_n 3, 1) := by decide +kernel
theorem dX10_would_30 : decode cX10_would 30 = .ok (.aload_n 0, 1) := by decide +kernel
theorem dX10_would_31 : decode cX10_would 31 = .ok (.getfield 19, 3) := by decide +kernel
theorem dX10_would_34 : decode cX10_would 34 = .ok (.getfield 183, 3) := by decide +kernel
theorem dX10_would_37 : decode cX10_would 37 = .ok (.invokestatic 281, 3) := by decide +kernel
theorem dX10_would_40 : decode cX10_would 40 = .ok (.ireturn, 1) := by decide +kernel
theorem dX10_count_0 : decode cX10_count 0 = .ok (.iload_n 1, 1) := by decide +kernel
theorem dX10_count_1 : decode cX10_count 1 = .ok (.tableswitch 151 0 10 #[59, 67, 75, 83, 91, 99, 107, 115, 123, 128, 143], 59) := by decide +kernel
theorem dX10_count_60 : decode cX10_count 60 = .ok (.aload_n 0, 1) := by decide +kernel
theorem dX10_count_61 : decode cX10_count 61 = .ok (.getfield 19, 3) := by decide +kernel
theorem dX10_count_64 : decode cX10_count 64 = .ok (.getfield 183, 3) := by decide +kernel
theorem dX10_count_67 : decode cX10_count 67 = .ok (.ireturn, 1) := by decide +kernel
theorem dX10_count_68 : decode cX10_count 68 = .ok (.aload_n 0, 1) := by decide +kernel
theorem dX10_count_69 : decode cX10_count 69 = .ok (.getfield 19, 3) := by decide +kernel
theorem dX10_count_72 : decode cX10_count 72 = .ok (.getfield 362, 3) := by decide +kernel
theorem dX10_count_75 : decode cX10_count 75 = .ok (.ireturn, 1) := by decide +kernel
theorem dX10_count_76 : decode cX10_count 76 = .ok (.aload_n 0, 1) := by decide +kernel
theorem dX10_count_77 : decode cX10_count 77 = .ok (.getfield 56, 3) := by decide +kernel
theorem dX10_count_80 : decode cX10_count 80 = .ok (.getfield 125, 3) := by decide +kernel
theorem dX10_count_83 : decode cX10_count 83 = .ok (.ireturn, 1) := by decide +kernel
theorem dX10_count_84 : decode cX10_count 84 = .ok (.aload_n 0, 1) := by decide +kernel
theorem dX10_count_85 : decode cX10_count 85 = .ok (.getfield 72, 3) := by decide +kernel
theorem dX10_count_88 : decode cX10_count 88 = .ok (.invokevirtual 304, 3) := by decide +kernel
theorem dX10_count_91 : decode cX10_count 91 = .ok (.ireturn, 1) := by decide +kernel
theorem dX10_count_92 : decode cX10_count 92 = .ok (.aload_n 0, 1) := by decide +kernel
theorem dX10_count_93 : decode cX10_count 93 = .ok (.getfield 72, 3) := by decide +kernel
theorem dX10_count_96 : decode cX10_count 96 = .ok (.invokevirtual 365, 3) := by decide +kernel
theorem dX10_count_99 : decode cX10_count 99 = .ok (.ireturn, 1) := by decide +kernel
theorem dX10_count_100 : decode cX10_count 100 = .ok (.aload_n 0, 1) := by decide +kernel
theorem dX10_count_101 : decode cX10_count 101 = .ok (.getfield 56, 3) := by decide +kernel
theorem dX10_count_104 : decode cX10_count 104 = .ok (.getfield 313, 3) := by decide +kernel
theorem dX10_count_107 : decode cX10_count 107 = .ok (.ireturn, 1) := by decide +kernel
theorem dX10_count_108 : decode cX10_count 108 = .ok (.aload_n 0, 1) := by decide +kernel
theorem dX10_count_109 : decode cX10_count 109 = .ok (.getfield 19, 3) := by decide +kernel
theorem dX10_count_112 : decode cX10_count 112 = .ok (.getfield 140, 3) := by decide +kernel
theorem dX10_count_115 : decode cX10_count 115 = .ok (.ireturn, 1) := by decide +kernel
theorem dX10_count_116 : decode cX10_count 116 = .ok (.aload_n 0, 1) := by decide +kernel
theorem dX10_count_117 : decode cX10_count 117 = .ok (.getfield 19, 3) := by decide +kernel
theorem dX10_count_120 : decode cX10_count 120 = .ok (.invokevirtual 368, 3) := by decide +kernel
theorem dX10_count_123 : decode cX10_count 123 = .ok (.ireturn, 1) := by decide +kernel
theorem dX10_count_124 : decode cX10_count 124 = .ok (.aload_n 0, 1) := by decide +kernel
theorem dX10_count_125 : decode cX10_count 125 = .ok (.getfield 84, 3) := by decide +kernel
theorem dX10_count_128 : decode cX10_count 128 = .ok (.ireturn, 1) := by decide +kernel
theorem dX10_count_129 : decode cX10_count 129 = .ok (.aload_n 0, 1) := by decide +kernel
theorem dX10_count_130 : decode cX10_count 130 = .ok (.getfield 19, 3) := by decide +kernel
theorem dX10_count_133 : decode cX10_count 133 = .ok (.aload_n 0, 1) := by decide +kernel
theorem dX10_count_134 : decode cX10_count 134 = .ok (.getfield 19, 3) := by decide +kernel
theorem dX10_count_137 : decode cX10_count 137 = .ok (.invokevirtual 370, 3) := by decide +kernel
theorem dX10_count_140 : decode cX10_count 140 = .ok (.invokevirtual 307, 3) := by decide +kernel
theorem dX10_count_143 : decode cX10_count 143 = .ok (.ireturn, 1) := by decide +kernel
theorem dX10_count_144 : decode cX10_count 144 = .ok (.aload_n 0, 1) := by decide +kernel
theorem dX10_count_145 : decode cX10_count 145 = .ok (.getfield 72, 3) := by decide +kernel
theorem dX10_count_148 : decode cX10_count 148 = .ok (.invokevirtual 373, 3) := by decide +kernel
theorem dX10_count_151 : decode cX10_count 151 = .ok (.ireturn, 1) := by decide +kernel
theorem dX10_count_152 : decode cX10_count 152 = .ok (.iconst (-1), 1) := by decide +kernel
theorem dX10_count_153 : decode cX10_count 153 = .ok (.ireturn, 1) := by decide +kernel
noncomputable def nX10_feed (a1 : Int32) (a2 : Int32) (a3 : Int32) (a4 : Int32) (a5 : Int32) (g : zS) : Option (Int32 × zS) :=
  (nX9_hasRoom (20 : Int32) g).bind fun v1 => if v1 = 0 then (some (((-1 : Int32), g))) else ((nX9_put a1 g).bind fun v2 => (nX9_put a2 v2).bind fun v3 => (nX9_put a3 v3).bind fun v4 => (nX9_put a4 v4).bind fun v5 => (nX9_put a5 v5).bind fun v6 => some (((v6.1 1 1), v6)))
set_option maxHeartbeats 60000 in
theorem tX10_feed {l : Launch} (hl0 : l.flags = flags0) (a1 : Int32) (a2 : Int32) (a3 : Int32) (a4 : Int32) (a5 : Int32) (g : zS) {r : (Int32 × zS)} (h : nX10_feed a1 a2 a3 a4 a5 g = some r) : zC l yX10_feed cX10_feed 6 ((Option.some Jvm.ClassFile.FieldType.int)) 1 0 0 [.ref 0, .int a1, .int a2, .int a3, .int a4, .int a5] zD g (.inl (some (.int r.1)), zD, r.2) := by
  refine zC_of hl0 rfl (Nat.le_of_ble_eq_true rfl) (fun x hG hxl hk _ => ?_)
  subst hxl
  show zK x 1 0 [(0, .ref 0), (1, .int a1), (2, .int a2), (3, .int a3), (4, .int a4), (5, .int a5)] [] zD g 0 0
  unfold nX10_feed at h
  refine z_aload_n (pc := 0) hG 0 rfl rfl dX10_feed_0 ?_
  refine z_getr (pc := 1) hG zc_X10 inX10 DL_0 0 rfl (by decide) rfl w744 dX10_feed_1 ?_
  refine z_bipush (pc := 4) hG kb_20 dX10_feed_4 ?_
  replace h := zbind h
  obtain ⟨v1, hv1, h⟩ := h
  refine z_cvI (pc := 6) (A' := 0) (B' := 0) hG [.int (20 : Int32)] [] zc_X9 DL_1 (tX9_hasRoom hl0 (20 : Int32) g hv1) zy_X9_hasRoom ⟨w1100, w1101⟩ w1099 dX10_feed_6 rfl (Nat.le_of_ble_eq_true rfl) rfl rfl rfl (Nat.le_of_ble_eq_true rfl) rfl ?_
  refine z_if_ne (pc := 9) (tgt := 14) hG dX10_feed_9 rfl (fun hc => ?_) (fun hc => ?_)
  · replace h := zif_f hc h
    refine z_aload_n (pc := 14) hG 0 rfl rfl dX10_feed_14 ?_
    refine z_getr (pc := 15) hG zc_X10 inX10 DL_0 0 rfl (by decide) rfl w744 dX10_feed_15 ?_
    refine z_iload_n (pc := 18) hG 1 rfl rfl dX10_feed_18 ?_
    replace h := zbind h
    obtain ⟨v2, hv2, h⟩ := h
    refine z_cvV (pc := 19) (A' := 0) (B' := 0) hG [.int a1] [] zc_X9 DL_1 (tX9_put hl0 a1 g hv2) zy_X9_put ⟨w1104, w1105⟩ w1103 dX10_feed_19 rfl (Nat.le_of_ble_eq_true rfl) rfl rfl rfl (Nat.le_of_ble_eq_true rfl) rfl ?_
    refine z_aload_n (pc := 22) hG 0 rfl rfl dX10_feed_22 ?_
    refine z_getr (pc := 23) hG zc_X10 inX10 DL_0 0 rfl (by decide) rfl w744 dX10_feed_23 ?_
    refine z_iload_n (pc := 26) hG 2 rfl rfl dX10_feed_26 ?_
    replace h := zbind h
    obtain ⟨v3, hv3, h⟩ := h
    refine z_cvV (pc := 27) (A' := 0) (B' := 0) hG [.int a2] [] zc_X9 DL_1 (tX9_put hl0 a2 v2 hv3) zy_X9_put ⟨w1104, w1105⟩ w1103 dX10_feed_27 rfl (Nat.le_of_ble_eq_true rfl) rfl rfl rfl (Nat.le_of_ble_eq_true rfl) rfl ?_
    refine z_aload_n (pc := 30) hG 0 rfl rfl dX10_feed_30 ?_
    refine z_getr (pc := 31) hG zc_X10 inX10 DL_0 0 rfl (by decide) rfl w744 dX10_feed_31 ?_
    refine z_iload_n (pc := 34) hG 3 rfl rfl dX10_feed_34 ?_
    replace h := zbind h
    obtain ⟨v4, hv4, h⟩ := h
    refine z_cvV (pc := 35) (A' := 0) (B' := 0) hG [.int a3] [] zc_X9 DL_1 (tX9_put hl0 a3 v3 hv4) zy_X9_put ⟨w1104, w1105⟩ w1103 dX10_feed_35 rfl (Nat.le_of_ble_eq_true rfl) rfl rfl rfl (Nat.le_of_ble_eq_true rfl) rfl ?_
    refine z_aload_n (pc := 38) hG 0 rfl rfl dX10_feed_38 ?_
    refine z_getr (pc := 39) hG zc_X10 inX10 DL_0 0 rfl (by decide) rfl w744 dX10_feed_39 ?_
    refine z_iload (pc := 42) hG 4 rfl dX10_feed_42 ?_
    replace h := zbind h
    obtain ⟨v5, hv5, h⟩ := h
    refine z_cvV (pc := 44) (A' := 0) (B' := 0) hG [.int a4] [] zc_X9 DL_1 (tX9_put hl0 a4 v4 hv5) zy_X9_put ⟨w1104, w1105⟩ w1103 dX10_feed_44 rfl (Nat.le_of_ble_eq_true rfl) rfl rfl rfl (Nat.le_of_ble_eq_true rfl) rfl ?_
    refine z_aload_n (pc := 47) hG 0 rfl rfl dX10_feed_47 ?_
    refine z_getr (pc := 48) hG zc_X10 inX10 DL_0 0 rfl (by decide) rfl w744 dX10_feed_48 ?_
    refine z_iload (pc := 51) hG 5 rfl dX10_feed_51 ?_
    replace h := zbind h
    obtain ⟨v6, hv6, h⟩ := h
    refine z_cvV (pc := 53) (A' := 0) (B' := 0) hG [.int a5] [] zc_X9 DL_1 (tX9_put hl0 a5 v5 hv6) zy_X9_put ⟨w1104, w1105⟩ w1103 dX10_feed_53 rfl (Nat.le_of_ble_eq_true rfl) rfl rfl rfl (Nat.le_of_ble_eq_true rfl) rfl ?_
    refine z_aload_n (pc := 56) hG 0 rfl rfl dX10_feed_56 ?_
    refine z_getr (pc := 57) hG zc_X10 inX10 DL_0 0 rfl (by decide) rfl w744 dX10_feed_57 ?_
    refine z_geti (pc := 60) hG zc_X9 inX9 DL_1 1 rfl (by decide) rfl w519 dX10_feed_60 ?_
    obtain rfl := Option.some.inj h
    exact z_iret (pc := 63) hG rfl rfl hk dX10_feed_63
  · replace h := zif_t hc h
    refine z_iconst (pc := 12) hG kc_m1 dX10_feed_12 ?_
    obtain rfl := Option.some.inj h
    exact z_iret (pc := 13) hG rfl rfl hk dX10_feed_13
noncomputable def nX10_end (a1 : Int32) (g : zS) : Option (Int32 × zS) :=
  if a1 < 0 then (some (((0 : Int32), g))) else (if a1 ≤ (g.1 1 1) then (some (((1 : Int32), (zi g 1 1 a1)))) else (some (((0 : Int32), g))))
set_option maxHeartbeats 60000 in
theorem tX10_end {l : Launch} (hl0 : l.flags = flags0) (a1 : Int32) (g : zS) {r : (Int32 × zS)} (h : nX10_end a1 g = some r) : zC l yX10_end cX10_end 2 ((Option.some Jvm.ClassFile.FieldType.boolean)) 0 0 0 [.ref 0, .int a1] zD g (.inl (some (.int r.1)), zD, r.2) := by
  refine zC_of hl0 rfl (Nat.le_of_ble_eq_true rfl) (fun x hG hxl hk _ => ?_)
  subst hxl
  show zK x 0 0 [(0, .ref 0), (1, .int a1)] [] zD g 0 0
  unfold nX10_end at h
  refine z_iload_n (pc := 0) hG 1 rfl rfl dX10_end_0 ?_
  refine z_if_lt (pc := 1) (tgt := 15) hG dX10_end_1 rfl (fun hc => ?_) (fun hc => ?_)
  · replace h := zif_t hc h
    refine z_iconst (pc := 15) hG kc_0 dX10_end_15 ?_
    obtain rfl := Option.some.inj h
    exact z_iret (pc := 16) hG rfl rfl hk dX10_end_16
  · replace h := zif_f hc h
    refine z_iload_n (pc := 4) hG 1 rfl rfl dX10_end_4 ?_
    refine z_aload_n (pc := 5) hG 0 rfl rfl dX10_end_5 ?_
    refine z_getr (pc := 6) hG zc_X10 inX10 DL_0 0 rfl (by decide) rfl w744 dX10_end_6 ?_
    refine z_geti (pc := 9) hG zc_X9 inX9 DL_1 1 rfl (by decide) rfl w519 dX10_end_9 ?_
    refine z_icmp_le (pc := 12) (tgt := 17) hG dX10_end_12 rfl (fun hc => ?_) (fun hc => ?_)
    · replace h := zif_t hc h
      refine z_aload_n (pc := 17) hG 0 rfl rfl dX10_end_17 ?_
      refine z_getr (pc := 18) hG zc_X10 inX10 DL_0 0 rfl (by decide) rfl w744 dX10_end_18 ?_
      refine z_iload_n (pc := 21) hG 1 rfl rfl dX10_end_21 ?_
      refine z_puti (pc := 22) hG zc_X9 inX9 tyX9 tyX9_ok nmX9 DL_1 1 rfl (by decide) rfl w519 rfl rfl rfl dX10_end_22 ?_
      refine z_iconst (pc := 25) hG kc_1 dX10_end_25 ?_
      obtain rfl := Option.some.inj h
      exact z_iret (pc := 26) hG rfl rfl hk dX10_end_26
    · replace h := zif_f hc h
      refine z_iconst (pc := 15) hG kc_0 dX10_end_15 ?_
      obtain rfl := Option.some.inj h
      exact z_iret (pc := 16) hG rfl rfl hk dX10_end_16
noncomputable def nX10_read (g : zS) : Option ((Int32 ⊕ String) × zS) :=
  (nX7_readText g).bind fun v1 => (nX7_place v1.2).bind fun v2 => if v1.1 = 0 then (some ((.inr "java/lang/IllegalArgumentException", (zi (zi v1.2 1 1 (0 : Int32)) 0 12 v2)))) else ((nX6_copyFrom_d (zi (zi v1.2 1 1 (0 : Int32)) 0 12 (-1 : Int32))).bind fun v3 => (nX5_prepare v3).bind fun v4 => (nX0_forget v4).bind fun v5 => (nX8_start v5).bind fun v6 => some ((.inl (v6.1 31 1), v6)))
set_option maxHeartbeats 60000 in
theorem tX10_read {l : Launch} (hl0 : l.flags = flags0) (g : zS) {r : ((Int32 ⊕ String) × zS)} (h : nX10_read g = some r) : zC l yX10_read cX10_read 3 ((Option.some Jvm.ClassFile.FieldType.int)) 9 1 6 [.ref 0] zD g (ztI r.1, zD, r.2) := by
  refine zC_of hl0 rfl (Nat.le_of_ble_eq_true rfl) (fun x hG hxl hk _ => ?_)
  subst hxl
  show zK x 9 0 [(0, .ref 0)] [] zD g 1 6
  unfold nX10_read at h
  refine z_aload_n (pc := 0) hG 0 rfl rfl dX10_read_0 ?_
  refine z_getr (pc := 1) hG zc_X10 inX10 DL_0 3 rfl (by decide) rfl w747 dX10_read_1 ?_
  replace h := zbind h
  obtain ⟨v1, hv1, h⟩ := h
  refine z_cvI (pc := 4) (A' := 1) (B' := 6) hG [] [] zc_X7 DL_19 (tX7_readText hl0  g hv1) zy_X7_readText ⟨w1112, w1113⟩ w1111 dX10_read_4 rfl (Nat.le_of_ble_eq_true rfl) rfl rfl rfl (Nat.le_of_ble_eq_true rfl) rfl ?_
  refine z_istore_n (pc := 7) (ls' := [(1, .int v1.1), (0, .ref 0)]) hG [0, 1] rfl (by decide) rfl dX10_read_7 ?_
  refine z_aload_n (pc := 8) hG 1 rfl rfl dX10_read_8 ?_
  refine z_getr (pc := 9) hG zc_X10 inX10 DL_0 3 rfl (by decide) rfl w747 dX10_read_9 ?_
  replace h := zbind h
  obtain ⟨v2, hv2, h⟩ := h
  refine z_cvI (pc := 12) (A' := 1) (B' := 6) hG [] [] zc_X7 DL_19 (tX7_place hl0  v1.2 hv2) zy_X7_place ⟨w1210, w1211⟩ w1209 dX10_read_12 rfl (Nat.le_of_ble_eq_true rfl) rfl rfl rfl (Nat.le_of_ble_eq_true rfl) rfl ?_
  refine z_istore_n (pc := 15) (ls' := [(2, .int v2), (1, .int v1.1), (0, .ref 0)]) hG [0, 1, 2] rfl (by decide) rfl dX10_read_15 ?_
  refine z_aload_n (pc := 16) hG 2 rfl rfl dX10_read_16 ?_
  refine z_getr (pc := 17) hG zc_X10 inX10 DL_0 0 rfl (by decide) rfl w744 dX10_read_17 ?_
  refine z_iconst (pc := 20) hG kc_0 dX10_read_20 ?_
  refine z_puti (pc := 21) hG zc_X9 inX9 tyX9 tyX9_ok nmX9 DL_1 1 rfl (by decide) rfl w519 rfl rfl rfl dX10_read_21 ?_
  refine z_iload_n (pc := 24) hG 1 rfl rfl dX10_read_24 ?_
  refine z_if_ne (pc := 25) (tgt := 41) hG dX10_read_25 rfl (fun hc => ?_) (fun hc => ?_)
  · replace h := zif_f hc h
    refine z_aload_n (pc := 41) hG 2 rfl rfl dX10_read_41 ?_
    refine z_iconst (pc := 42) hG kc_m1 dX10_read_42 ?_
    refine z_puti (pc := 43) hG zc_X10 inX10 tyX10 tyX10_ok nmX10 DL_0 12 rfl (by decide) rfl w756 rfl rfl rfl dX10_read_43 ?_
    refine z_aload_n (pc := 46) hG 2 rfl rfl dX10_read_46 ?_
    refine z_getr (pc := 47) hG zc_X10 inX10 DL_0 1 rfl (by decide) rfl w745 dX10_read_47 ?_
    refine z_aload_n (pc := 50) hG 2 rfl rfl dX10_read_50 ?_
    refine z_getr (pc := 51) hG zc_X10 inX10 DL_0 2 rfl (by decide) rfl w746 dX10_read_51 ?_
    replace h := zbind h
    obtain ⟨v3, hv3, h⟩ := h
    refine z_cvV (pc := 54) (A' := 1) (B' := 6) hG [.ref 11] [] zc_X6 DL_3 (tX6_copyFrom_d hl0  (zi (zi v1.2 1 1 (0 : Int32)) 0 12 (-1 : Int32)) hv3) zy_X6_copyFrom ⟨w1214, w1215⟩ w1213 dX10_read_54 rfl (Nat.le_of_ble_eq_true rfl) rfl rfl rfl (Nat.le_of_ble_eq_true rfl) rfl ?_
    refine z_aload_n (pc := 57) hG 2 rfl rfl dX10_read_57 ?_
    refine z_getr (pc := 58) hG zc_X10 inX10 DL_0 4 rfl (by decide) rfl w748 dX10_read_58 ?_
    replace h := zbind h
    obtain ⟨v4, hv4, h⟩ := h
    refine z_cvV (pc := 61) (A' := 1) (B' := 6) hG [] [] zc_X5 DL_20 (tX5_prepare hl0  v3 hv4) zy_X5_prepare ⟨w1219, w1220⟩ w1218 dX10_read_61 rfl (Nat.le_of_ble_eq_true rfl) rfl rfl rfl (Nat.le_of_ble_eq_true rfl) rfl ?_
    refine z_aload_n (pc := 64) hG 2 rfl rfl dX10_read_64 ?_
    refine z_getr (pc := 65) hG zc_X10 inX10 DL_0 5 rfl (by decide) rfl w749 dX10_read_65 ?_
    replace h := zbind h
    obtain ⟨v5, hv5, h⟩ := h
    refine z_cvV (pc := 68) (A' := 1) (B' := 6) hG [] [] zc_X0 DL_26 (tX0_forget hl0  v4 hv5) zy_X0_forget ⟨w1241, w1242⟩ w1240 dX10_read_68 rfl (Nat.le_of_ble_eq_true rfl) rfl rfl rfl (Nat.le_of_ble_eq_true rfl) rfl ?_
    refine z_aload_n (pc := 71) hG 2 rfl rfl dX10_read_71 ?_
    refine z_getr (pc := 72) hG zc_X10 inX10 DL_0 6 rfl (by decide) rfl w750 dX10_read_72 ?_
    refine z_aload_n (pc := 75) hG 2 rfl rfl dX10_read_75 ?_
    refine z_getr (pc := 76) hG zc_X10 inX10 DL_0 1 rfl (by decide) rfl w745 dX10_read_76 ?_
    replace h := zbind h
    obtain ⟨v6, hv6, h⟩ := h
    refine z_cvV (pc := 79) (A' := 1) (B' := 6) hG [.ref 3] [] zc_X8 DL_31 (tX8_start hl0  v5 hv6) zy_X8_start ⟨w1245, w1246⟩ w1244 dX10_read_79 rfl (Nat.le_of_ble_eq_true rfl) rfl rfl rfl (Nat.le_of_ble_eq_true rfl) rfl ?_
    refine z_aload_n (pc := 82) hG 2 rfl rfl dX10_read_82 ?_
    refine z_getr (pc := 83) hG zc_X10 inX10 DL_0 6 rfl (by decide) rfl w750 dX10_read_83 ?_
    refine z_geti (pc := 86) hG zc_X8 inX8 DL_31 1 rfl (by decide) rfl w685 dX10_read_86 ?_
    obtain rfl := Option.some.inj h
    exact z_iret (pc := 89) hG rfl rfl hk dX10_read_89
  · replace h := zif_t hc h
    refine z_aload_n (pc := 28) hG 2 rfl rfl dX10_read_28 ?_
    refine z_iload_n (pc := 29) hG 0 rfl rfl dX10_read_29 ?_
    refine z_puti (pc := 30) hG zc_X10 inX10 tyX10 tyX10_ok nmX10 DL_0 12 rfl (by decide) rfl w756 rfl rfl rfl dX10_read_30 ?_
    obtain rfl := Option.some.inj h
    exact z_throw (pc := 33) hG (by decide) (by decide) w230 w27 hatRX10_112 hbdRX10_112 hgdRX10_112 (by decide) (Nat.le_of_ble_eq_true rfl) (Nat.le_of_ble_eq_true rfl) (Nat.le_of_ble_eq_true rfl) (Nat.le_of_ble_eq_true rfl) dX10_read_33 dX10_read_36 dX10_read_37 dX10_read_40 hk
noncomputable def jX10_needField_15 (g : zS) : Option (Unit ⊕ String) :=
  some (.inr "java/lang/IndexOutOfBoundsException")
noncomputable def nX10_needField (a1 : Int32) (g : zS) : Option (Unit ⊕ String) :=
  if a1 < 0 then (jX10_needField_15 g) else (if a1 < (g.1 3 0) then (some (.inl ())) else (jX10_needField_15 g))
set_option maxHeartbeats 60000 in
theorem kjX10_needField_15 {x : zXx} (hG : zG x cX10_needField 2 RX10 ((Option.none : Option Jvm.ClassFile.FieldType))) (hl0 : (zl0 x).flags = flags0) (g : zS) {o : (Unit ⊕ String)} (h : jX10_needField_15 g = some o) (hk : ztg x = (ztV o, zD, g)) : zK x 8 15 [] [] zD g 1 6 := by
  unfold jX10_needField_15 at h
  obtain rfl := Option.some.inj h
  exact z_throw (pc := 15) hG (by decide) (by decide) w41 w29 hatRX10_378 hbdRX10_378 hgdRX10_378 (by decide) (Nat.le_of_ble_eq_true rfl) (Nat.le_of_ble_eq_true rfl) (Nat.le_of_ble_eq_true rfl) (Nat.le_of_ble_eq_true rfl) dX10_needField_15 dX10_needField_18 dX10_needField_19 dX10_needField_22 hk
set_option maxHeartbeats 60000 in
theorem tX10_needField {l : Launch} (hl0 : l.flags = flags0) (a1 : Int32) (g : zS) {r : (Unit ⊕ String)} (h : nX10_needField a1 g = some r) : zC l yX10_needField cX10_needField 2 ((Option.none : Option Jvm.ClassFile.FieldType)) 8 1 6 [.ref 0, .int a1] zD g (ztV r, zD, g) := by
  refine zC_of hl0 rfl (Nat.le_of_ble_eq_true rfl) (fun x hG hxl hk _ => ?_)
  subst hxl
  show zK x 8 0 [(0, .ref 0), (1, .int a1)] [] zD g 1 6
  unfold nX10_needField at h
  refine z_iload_n (pc := 0) hG 1 rfl rfl dX10_needField_0 ?_
  refine z_if_lt (pc := 1) (tgt := 15) hG dX10_needField_1 rfl (fun hc => ?_) (fun hc => ?_)
  · replace h := zif_t hc h
    refine z_sub (ls' := []) [] rfl ?_
    exact kjX10_needField_15 hG hl0 g h hk
  · replace h := zif_f hc h
    refine z_iload_n (pc := 4) hG 1 rfl rfl dX10_needField_4 ?_
    refine z_aload_n (pc := 5) hG 0 rfl rfl dX10_needField_5 ?_
    refine z_getr (pc := 6) hG zc_X10 inX10 DL_0 1 rfl (by decide) rfl w745 dX10_needField_6 ?_
    refine z_geti (pc := 9) hG zc_X6 inX6 DL_3 0 rfl (by decide) rfl w537 dX10_needField_9 ?_
    refine z_icmp_lt (pc := 12) (tgt := 23) hG dX10_needField_12 rfl (fun hc => ?_) (fun hc => ?_)
    · replace h := zif_t hc h
      obtain rfl := Option.some.inj h
      exact z_vret (pc := 23) hG rfl hk dX10_needField_23
    · replace h := zif_f hc h
      refine z_sub (ls' := []) [] rfl ?_
      exact kjX10_needField_15 hG hl0 g h hk
noncomputable def nX10_field (a1 : Int32) (a2 : Int32) (g : zS) : Option (Int32 ⊕ String) :=
  (nX10_needField a1 g).bind fun v1 => zel v1 (fun w1 => if a2 = 0 then (zchk (zin a1 5) (some (.inl (g.1 4 a1.toNatClampNeg)))) else (if a2 = 1 then (zchk (zin a1 5) (some (.inl (g.1 5 a1.toNatClampNeg)))) else (if a2 = 2 then (zchk (zin a1 5) (some (.inl (g.1 6 a1.toNatClampNeg)))) else (if a2 = 3 then (if (g.1 3 6) = a1 then (some (.inl (1 : Int32))) else (some (.inl (0 : Int32)))) else (some (.inr "java/util/NoSuchElementException")))))) (fun e => some (.inr e))
set_option maxHeartbeats 60000 in
theorem tX10_field {l : Launch} (hl0 : l.flags = flags0) (a1 : Int32) (a2 : Int32) (g : zS) {r : (Int32 ⊕ String)} (h : nX10_field a1 a2 g = some r) : zC l yX10_field cX10_field 3 ((Option.some Jvm.ClassFile.FieldType.int)) 9 2 12 [.ref 0, .int a1, .int a2] zD g (ztI r, zD, g) := by
  refine zC_of hl0 rfl (Nat.le_of_ble_eq_true rfl) (fun x hG hxl hk _ => ?_)
  subst hxl
  show zK x 9 0 [(0, .ref 0), (1, .int a1), (2, .int a2)] [] zD g 2 12
  unfold nX10_field at h
  refine z_aload_n (pc := 0) hG 0 rfl rfl dX10_field_0 ?_
  refine z_iload_n (pc := 1) hG 1 rfl rfl dX10_field_1 ?_
  replace h := zbind h
  obtain ⟨w1 | e, hv1, h⟩ := h
  rotate_left
  · replace h := zel_r h
    obtain rfl := Option.some.inj h
    exact z_cvX (pc := 2) hG [.int a1] [] zc_X10 DL_0 (tX10_needField hl0 a1 g hv1) zy_X10_needField ⟨w38, wp0⟩ w36 dX10_field_2 rfl (Nat.le_of_ble_eq_true rfl) (Nat.le_of_ble_eq_true rfl) (Nat.le_of_ble_eq_true rfl) (Nat.le_of_ble_eq_true rfl) rfl hk
  replace h := zel_l h
  refine z_cvV (pc := 2) (A' := 1) (B' := 6) hG [.int a1] [] zc_X10 DL_0 (tX10_needField hl0 a1 g hv1) zy_X10_needField ⟨w38, wp0⟩ w36 dX10_field_2 rfl (Nat.le_of_ble_eq_true rfl) rfl rfl rfl (Nat.le_of_ble_eq_true rfl) rfl ?_
  refine z_iload_n (pc := 5) hG 2 rfl rfl dX10_field_5 ?_
  by_cases hc0 : a2 = 0
  · replace h := zif_t hc0 h
    refine z_tabIn (pc := 6) (tgt := 36) hG dX10_field_6 (by rw [hc0]; decide) (by rw [hc0]; decide) (by rw [hc0]; rfl) rfl ?_
    refine z_aload_n (pc := 36) hG 0 rfl rfl dX10_field_36 ?_
    refine z_getr (pc := 37) hG zc_X10 inX10 DL_0 1 rfl (by decide) rfl w745 dX10_field_37 ?_
    refine z_getr (pc := 40) hG zc_X6 inX6 DL_3 1 rfl (by decide) rfl w542 dX10_field_40 ?_
    refine z_iload_n (pc := 43) hG 1 rfl rfl dX10_field_43 ?_
    replace h := zchk_some h
    obtain ⟨hc, h⟩ := h
    refine z_iald (pc := 44) hG DL_4 (zin_in hc) dX10_field_44 ?_
    obtain rfl := Option.some.inj h
    exact z_iret (pc := 45) hG rfl rfl hk dX10_field_45
  replace h := zif_f hc0 h
  by_cases hc1 : a2 = 1
  · replace h := zif_t hc1 h
    refine z_tabIn (pc := 6) (tgt := 46) hG dX10_field_6 (by rw [hc1]; decide) (by rw [hc1]; decide) (by rw [hc1]; rfl) rfl ?_
    refine z_aload_n (pc := 46) hG 0 rfl rfl dX10_field_46 ?_
    refine z_getr (pc := 47) hG zc_X10 inX10 DL_0 1 rfl (by decide) rfl w745 dX10_field_47 ?_
    refine z_getr (pc := 50) hG zc_X6 inX6 DL_3 2 rfl (by decide) rfl w545 dX10_field_50 ?_
    refine z_iload_n (pc := 53) hG 1 rfl rfl dX10_field_53 ?_
    replace h := zchk_some h
    obtain ⟨hc, h⟩ := h
    refine z_iald (pc := 54) hG DL_5 (zin_in hc) dX10_field_54 ?_
    obtain rfl := Option.some.inj h
    exact z_iret (pc := 55) hG rfl rfl hk dX10_field_55
  replace h := zif_f hc1 h
  by_cases hc2 : a2 = 2
  · replace h := zif_t hc2 h
    refine z_tabIn (pc := 6) (tgt := 56) hG dX10_field_6 (by rw [hc2]; decide) (by rw [hc2]; decide) (by rw [hc2]; rfl) rfl ?_
    refine z_aload_n (pc := 56) hG 0 rfl rfl dX10_field_56 ?_
    refine z_getr (pc := 57) hG zc_X10 inX10 DL_0 1 rfl (by decide) rfl w745 dX10_field_57 ?_
    refine z_getr (pc := 60) hG zc_X6 inX6 DL_3 3 rfl (by decide) rfl w548 dX10_field_60 ?_
    refine z_iload_n (pc := 63) hG 1 rfl rfl dX10_field_63 ?_
    replace h := zchk_some h
    obtain ⟨hc, h⟩ := h
    refine z_iald (pc := 64) hG DL_6 (zin_in hc) dX10_field_64 ?_
    obtain rfl := Option.some.inj h
    exact z_iret (pc := 65) hG rfl rfl hk dX10_field_65
  replace h := zif_f hc2 h
  by_cases hc3 : a2 = 3
  · replace h := zif_t hc3 h
    refine z_tabIn (pc := 6) (tgt := 66) hG dX10_field_6 (by rw [hc3]; decide) (by rw [hc3]; decide) (by rw [hc3]; rfl) rfl ?_
    refine z_aload_n (pc := 66) hG 0 rfl rfl dX10_field_66 ?_
    refine z_getr (pc := 67) hG zc_X10 inX10 DL_0 1 rfl (by decide) rfl w745 dX10_field_67 ?_
    refine z_geti (pc := 70) hG zc_X6 inX6 DL_3 6 rfl (by decide) rfl w556 dX10_field_70 ?_
    refine z_iload_n (pc := 73) hG 1 rfl rfl dX10_field_73 ?_
    refine z_icmp_ne (pc := 74) (tgt := 81) hG dX10_field_74 rfl (fun hc => ?_) (fun hc => ?_)
    · replace h := zif_f hc h
      refine z_iconst (pc := 81) hG kc_0 dX10_field_81 ?_
      obtain rfl := Option.some.inj h
      exact z_iret (pc := 82) hG rfl rfl hk dX10_field_82
    · replace h := zif_t hc h
      refine z_iconst (pc := 77) hG kc_1 dX10_field_77 ?_
      refine z_goto (pc := 78) (tgt := 82) hG dX10_field_78 rfl ?_
      obtain rfl := Option.some.inj h
      exact z_iret (pc := 82) hG rfl rfl hk dX10_field_82
  replace h := zif_f hc3 h
  refine z_tabOut (pc := 6) (tgt := 83) hG dX10_field_6 (ztab_out (n := 3) (fun k hk => by
    match k, hk with
    | 0, _ => exact hc0
    | 1, _ => exact hc1
    | 2, _ => exact hc2
    | 3, _ => exact hc3
    | k + 4, hk => omega)) rfl ?_
  obtain rfl := Option.some.inj h
  exact z_throw (pc := 83) hG (by decide) (by decide) w107 w30 hatRX10_145 hbdRX10_145 hgdRX10_145 (by decide) (Nat.le_of_ble_eq_true rfl) (Nat.le_of_ble_eq_true rfl) (Nat.le_of_ble_eq_true rfl) (Nat.le_of_ble_eq_true rfl) dX10_field_83 dX10_field_86 dX10_field_87 dX10_field_90 hk
noncomputable def jX10_tried_28 (g : zS) : Option (Int32 ⊕ String) :=
  some (.inr "java/lang/IllegalArgumentException")
noncomputable def nX10_tried (a1 : Int32) (g : zS) : Option (Int32 ⊕ String) :=
  (nX1_ofDigits a1 (g.1 3 0)).bind fun v1 => if v1 = (-1 : Int32) then (jX10_tried_28 g) else ((nX6_holdsForm v1 g).bind fun v2 => if v2 = 0 then (jX10_tried_28 g) else ((nX5_editsFailed v1 g).bind fun v3 => some (.inl v3)))
set_option maxHeartbeats 60000 in
theorem kjX10_tried_28 {x : zXx} (hG : zG x cX10_tried 3 RX10 ((Option.some Jvm.ClassFile.FieldType.int))) (hl0 : (zl0 x).flags = flags0) (g : zS) {o : (Int32 ⊕ String)} (h : jX10_tried_28 g = some o) (hk : ztg x = (ztI o, zD, g)) : zK x 8 28 [] [] zD g 1 6 := by
  unfold jX10_tried_28 at h
  obtain rfl := Option.some.inj h
  exact z_throw (pc := 28) hG (by decide) (by decide) w230 w27 hatRX10_112 hbdRX10_112 hgdRX10_112 (by decide) (Nat.le_of_ble_eq_true rfl) (Nat.le_of_ble_eq_true rfl) (Nat.le_of_ble_eq_true rfl) (Nat.le_of_ble_eq_true rfl) dX10_tried_28 dX10_tried_31 dX10_tried_32 dX10_tried_35 hk
set_option maxHeartbeats 60000 in
theorem tX10_tried {l : Launch} (hl0 : l.flags = flags0) (a1 : Int32) (g : zS) {r : (Int32 ⊕ String)} (h : nX10_tried a1 g = some r) : zC l yX10_tried cX10_tried 3 ((Option.some Jvm.ClassFile.FieldType.int)) 8 1 6 [.ref 0, .int a1] zD g (ztI r, zD, g) := by
  refine zC_of hl0 rfl (Nat.le_of_ble_eq_true rfl) (fun x hG hxl hk _ => ?_)
  subst hxl
  show zK x 8 0 [(0, .ref 0), (1, .int a1)] [] zD g 1 6
  unfold nX10_tried at h
  refine z_iload_n (pc := 0) hG 1 rfl rfl dX10_tried_0 ?_
  refine z_aload_n (pc := 1) hG 0 rfl rfl dX10_tried_1 ?_
  refine z_getr (pc := 2) hG zc_X10 inX10 DL_0 1 rfl (by decide) rfl w745 dX10_tried_2 ?_
  refine z_geti (pc := 5) hG zc_X6 inX6 DL_3 0 rfl (by decide) rfl w537 dX10_tried_5 ?_
  replace h := zbind h
  obtain ⟨v1, hv1, h⟩ := h
  refine z_csI (pc := 8) (A' := 1) (B' := 6) hG [.int a1, .int (g.1 3 0)] [] (tX1_ofDigits hl0 a1 (g.1 3 0) g hv1) zy_X1_ofDigits w218 w217 dX10_tried_8 rfl (Nat.le_of_ble_eq_true rfl) rfl rfl rfl (Nat.le_of_ble_eq_true rfl) rfl ?_
  refine z_istore_n (pc := 11) (ls' := [(2, .int v1), (0, .ref 0), (1, .int a1)]) hG [0, 1, 2] rfl (by decide) rfl dX10_tried_11 ?_
  refine z_iload_n (pc := 12) hG 0 rfl rfl dX10_tried_12 ?_
  refine z_iconst (pc := 13) hG kc_m1 dX10_tried_13 ?_
  refine z_icmp_eq (pc := 14) (tgt := 28) hG dX10_tried_14 rfl (fun hc => ?_) (fun hc => ?_)
  · replace h := zif_t hc h
    refine z_sub (ls' := []) [] rfl ?_
    exact kjX10_tried_28 hG hl0 g h hk
  · replace h := zif_f hc h
    refine z_aload_n (pc := 17) hG 1 rfl rfl dX10_tried_17 ?_
    refine z_getr (pc := 18) hG zc_X10 inX10 DL_0 1 rfl (by decide) rfl w745 dX10_tried_18 ?_
    refine z_iload_n (pc := 21) hG 0 rfl rfl dX10_tried_21 ?_
    replace h := zbind h
    obtain ⟨v2, hv2, h⟩ := h
    refine z_cvI (pc := 22) (A' := 1) (B' := 6) hG [.int v1] [] zc_X6 DL_3 (tX6_holdsForm hl0 v1 g hv2) zy_X6_holdsForm ⟨w224, w225⟩ w223 dX10_tried_22 rfl (Nat.le_of_ble_eq_true rfl) rfl rfl rfl (Nat.le_of_ble_eq_true rfl) rfl ?_
    refine z_if_ne (pc := 25) (tgt := 36) hG dX10_tried_25 rfl (fun hc => ?_) (fun hc => ?_)
    · replace h := zif_f hc h
      refine z_aload_n (pc := 36) hG 1 rfl rfl dX10_tried_36 ?_
      refine z_getr (pc := 37) hG zc_X10 inX10 DL_0 4 rfl (by decide) rfl w748 dX10_tried_37 ?_
      refine z_iload_n (pc := 40) hG 0 rfl rfl dX10_tried_40 ?_
      replace h := zbind h
      obtain ⟨v3, hv3, h⟩ := h
      refine z_cvI (pc := 41) (A' := 1) (B' := 6) hG [.int v1] [] zc_X5 DL_20 (tX5_editsFailed hl0 v1 g hv3) zy_X5_editsFailed ⟨w246, w247⟩ w245 dX10_tried_41 rfl (Nat.le_of_ble_eq_true rfl) rfl rfl rfl (Nat.le_of_ble_eq_true rfl) rfl ?_
      obtain rfl := Option.some.inj h
      exact z_iret (pc := 44) hG rfl rfl hk dX10_tried_44
    · replace h := zif_t hc h
      refine z_sub (ls' := []) [] rfl ?_
      exact kjX10_tried_28 hG hl0 g h hk
noncomputable def jX10_needRow_15 (g : zS) : Option (Unit ⊕ String) :=
  some (.inr "java/lang/IndexOutOfBoundsException")
noncomputable def nX10_needRow (a1 : Int32) (g : zS) : Option (Unit ⊕ String) :=
  if a1 < 0 then (jX10_needRow_15 g) else (if a1 < (g.1 31 1) then (some (.inl ())) else (jX10_needRow_15 g))
set_option maxHeartbeats 60000 in
theorem kjX10_needRow_15 {x : zXx} (hG : zG x cX10_needRow 2 RX10 ((Option.none : Option Jvm.ClassFile.FieldType))) (hl0 : (zl0 x).flags = flags0) (g : zS) {o : (Unit ⊕ String)} (h : jX10_needRow_15 g = some o) (hk : ztg x = (ztV o, zD, g)) : zK x 8 15 [] [] zD g 1 6 := by
  unfold jX10_needRow_15 at h
  obtain rfl := Option.some.inj h
  exact z_throw (pc := 15) hG (by decide) (by decide) w41 w29 hatRX10_378 hbdRX10_378 hgdRX10_378 (by decide) (Nat.le_of_ble_eq_true rfl) (Nat.le_of_ble_eq_true rfl) (Nat.le_of_ble_eq_true rfl) (Nat.le_of_ble_eq_true rfl) dX10_needRow_15 dX10_needRow_18 dX10_needRow_19 dX10_needRow_22 hk
set_option maxHeartbeats 60000 in
theorem tX10_needRow {l : Launch} (hl0 : l.flags = flags0) (a1 : Int32) (g : zS) {r : (Unit ⊕ String)} (h : nX10_needRow a1 g = some r) : zC l yX10_needRow cX10_needRow 2 ((Option.none : Option Jvm.ClassFile.FieldType)) 8 1 6 [.ref 0, .int a1] zD g (ztV r, zD, g) := by
  refine zC_of hl0 rfl (Nat.le_of_ble_eq_true rfl) (fun x hG hxl hk _ => ?_)
  subst hxl
  show zK x 8 0 [(0, .ref 0), (1, .int a1)] [] zD g 1 6
  unfold nX10_needRow at h
  refine z_iload_n (pc := 0) hG 1 rfl rfl dX10_needRow_0 ?_
  refine z_if_lt (pc := 1) (tgt := 15) hG dX10_needRow_1 rfl (fun hc => ?_) (fun hc => ?_)
  · replace h := zif_t hc h
    refine z_sub (ls' := []) [] rfl ?_
    exact kjX10_needRow_15 hG hl0 g h hk
  · replace h := zif_f hc h
    refine z_iload_n (pc := 4) hG 1 rfl rfl dX10_needRow_4 ?_
    refine z_aload_n (pc := 5) hG 0 rfl rfl dX10_needRow_5 ?_
    refine z_getr (pc := 6) hG zc_X10 inX10 DL_0 6 rfl (by decide) rfl w750 dX10_needRow_6 ?_
    refine z_geti (pc := 9) hG zc_X8 inX8 DL_31 1 rfl (by decide) rfl w685 dX10_needRow_9 ?_
    refine z_icmp_lt (pc := 12) (tgt := 23) hG dX10_needRow_12 rfl (fun hc => ?_) (fun hc => ?_)
    · replace h := zif_t hc h
      obtain rfl := Option.some.inj h
      exact z_vret (pc := 23) hG rfl hk dX10_needRow_23
    · replace h := zif_f hc h
      refine z_sub (ls' := []) [] rfl ?_
      exact kjX10_needRow_15 hG hl0 g h hk
noncomputable def nX10_answer (a1 : Int32) (a2 : Int32) (g : zS) : Option (Int32 ⊕ String) :=
  (nX10_needRow a1 g).bind fun v1 => zel v1 (fun w1 => (nX10_needField a2 g).bind fun v2 => zel v2 (fun w2 => (nX8_codeOf a1 g).bind fun v3 => (nX1_answerAt v3 a2).bind fun v4 => some (.inl v4)) (fun e => some (.inr e))) (fun e => some (.inr e))
set_option maxHeartbeats 60000 in
theorem tX10_answer {l : Launch} (hl0 : l.flags = flags0) (a1 : Int32) (a2 : Int32) (g : zS) {r : (Int32 ⊕ String)} (h : nX10_answer a1 a2 g = some r) : zC l yX10_answer cX10_answer 3 ((Option.some Jvm.ClassFile.FieldType.int)) 9 2 12 [.ref 0, .int a1, .int a2] zD g (ztI r, zD, g) := by
  refine zC_of hl0 rfl (Nat.le_of_ble_eq_true rfl) (fun x hG hxl hk _ => ?_)
  subst hxl
  show zK x 9 0 [(0, .ref 0), (1, .int a1), (2, .int a2)] [] zD g 2 12
  unfold nX10_answer at h
  refine z_aload_n (pc := 0) hG 0 rfl rfl dX10_answer_0 ?_
  refine z_iload_n (pc := 1) hG 1 rfl rfl dX10_answer_1 ?_
  replace h := zbind h
  obtain ⟨w1 | e, hv1, h⟩ := h
  rotate_left
  · replace h := zel_r h
    obtain rfl := Option.some.inj h
    exact z_cvX (pc := 2) hG [.int a1] [] zc_X10 DL_0 (tX10_needRow hl0 a1 g hv1) zy_X10_needRow ⟨w265, wp11⟩ w263 dX10_answer_2 rfl (Nat.le_of_ble_eq_true rfl) (Nat.le_of_ble_eq_true rfl) (Nat.le_of_ble_eq_true rfl) (Nat.le_of_ble_eq_true rfl) rfl hk
  replace h := zel_l h
  refine z_cvV (pc := 2) (A' := 1) (B' := 6) hG [.int a1] [] zc_X10 DL_0 (tX10_needRow hl0 a1 g hv1) zy_X10_needRow ⟨w265, wp11⟩ w263 dX10_answer_2 rfl (Nat.le_of_ble_eq_true rfl) rfl rfl rfl (Nat.le_of_ble_eq_true rfl) rfl ?_
  refine z_aload_n (pc := 5) hG 0 rfl rfl dX10_answer_5 ?_
  refine z_iload_n (pc := 6) hG 2 rfl rfl dX10_answer_6 ?_
  replace h := zbind h
  obtain ⟨w2 | e, hv2, h⟩ := h
  rotate_left
  · replace h := zel_r h
    obtain rfl := Option.some.inj h
    exact z_cvX (pc := 7) hG [.int a2] [] zc_X10 DL_0 (tX10_needField hl0 a2 g hv2) zy_X10_needField ⟨w38, wp0⟩ w36 dX10_answer_7 rfl (Nat.le_of_ble_eq_true rfl) (Nat.le_of_ble_eq_true rfl) (Nat.le_of_ble_eq_true rfl) (Nat.le_of_ble_eq_true rfl) rfl hk
  replace h := zel_l h
  refine z_cvV (pc := 7) (A' := 0) (B' := 0) hG [.int a2] [] zc_X10 DL_0 (tX10_needField hl0 a2 g hv2) zy_X10_needField ⟨w38, wp0⟩ w36 dX10_answer_7 rfl (Nat.le_of_ble_eq_true rfl) rfl rfl rfl (Nat.le_of_ble_eq_true rfl) rfl ?_
  refine z_aload_n (pc := 10) hG 0 rfl rfl dX10_answer_10 ?_
  refine z_getr (pc := 11) hG zc_X10 inX10 DL_0 6 rfl (by decide) rfl w750 dX10_answer_11 ?_
  refine z_iload_n (pc := 14) hG 1 rfl rfl dX10_answer_14 ?_
  replace h := zbind h
  obtain ⟨v3, hv3, h⟩ := h
  refine z_cvI (pc := 15) (A' := 0) (B' := 0) hG [.int a1] [] zc_X8 DL_31 (tX8_codeOf hl0 a1 g hv3) zy_X8_codeOf ⟨w272, w273⟩ w271 dX10_answer_15 rfl (Nat.le_of_ble_eq_true rfl) rfl rfl rfl (Nat.le_of_ble_eq_true rfl) rfl ?_
  refine z_iload_n (pc := 18) hG 2 rfl rfl dX10_answer_18 ?_
  replace h := zbind h
  obtain ⟨v4, hv4, h⟩ := h
  refine z_csI (pc := 19) (A' := 0) (B' := 0) hG [.int v3, .int a2] [] (tX1_answerAt hl0 v3 a2 g hv4) zy_X1_answerAt w228 w1264 dX10_answer_19 rfl (Nat.le_of_ble_eq_true rfl) rfl rfl rfl (Nat.le_of_ble_eq_true rfl) rfl ?_
  obtain rfl := Option.some.inj h
  exact z_iret (pc := 22) hG rfl rfl hk dX10_answer_22
noncomputable def nX10_needAnswers (a1 : Int32) (a2 : Int32) (g : zS) : Option (Unit ⊕ String) :=
  (nX8_codeOf a1 g).bind fun v1 => (nX1_missingIn v1 (g.1 3 0)).bind fun v2 => if (v2 &&& (a2 ^^^ (-1 : Int32))) = 0 then (some (.inl ())) else (some (.inr "java/lang/IllegalStateException"))
set_option maxHeartbeats 60000 in
theorem tX10_needAnswers {l : Launch} (hl0 : l.flags = flags0) (a1 : Int32) (a2 : Int32) (g : zS) {r : (Unit ⊕ String)} (h : nX10_needAnswers a1 a2 g = some r) : zC l yX10_needAnswers cX10_needAnswers 3 ((Option.none : Option Jvm.ClassFile.FieldType)) 8 1 6 [.ref 0, .int a1, .int a2] zD g (ztV r, zD, g) := by
  refine zC_of hl0 rfl (Nat.le_of_ble_eq_true rfl) (fun x hG hxl hk _ => ?_)
  subst hxl
  show zK x 8 0 [(0, .ref 0), (1, .int a1), (2, .int a2)] [] zD g 1 6
  unfold nX10_needAnswers at h
  refine z_aload_n (pc := 0) hG 0 rfl rfl dX10_needAnswers_0 ?_
  refine z_getr (pc := 1) hG zc_X10 inX10 DL_0 6 rfl (by decide) rfl w750 dX10_needAnswers_1 ?_
  refine z_iload_n (pc := 4) hG 1 rfl rfl dX10_needAnswers_4 ?_
  replace h := zbind h
  obtain ⟨v1, hv1, h⟩ := h
  refine z_cvI (pc := 5) (A' := 1) (B' := 6) hG [.int a1] [] zc_X8 DL_31 (tX8_codeOf hl0 a1 g hv1) zy_X8_codeOf ⟨w272, w273⟩ w271 dX10_needAnswers_5 rfl (Nat.le_of_ble_eq_true rfl) rfl rfl rfl (Nat.le_of_ble_eq_true rfl) rfl ?_
  refine z_aload_n (pc := 8) hG 0 rfl rfl dX10_needAnswers_8 ?_
  refine z_getr (pc := 9) hG zc_X10 inX10 DL_0 1 rfl (by decide) rfl w745 dX10_needAnswers_9 ?_
  refine z_geti (pc := 12) hG zc_X6 inX6 DL_3 0 rfl (by decide) rfl w537 dX10_needAnswers_12 ?_
  replace h := zbind h
  obtain ⟨v2, hv2, h⟩ := h
  refine z_csI (pc := 15) (A' := 1) (B' := 6) hG [.int v1, .int (g.1 3 0)] [] (tX1_missingIn hl0 v1 (g.1 3 0) g hv2) zy_X1_missingIn w276 w275 dX10_needAnswers_15 rfl (Nat.le_of_ble_eq_true rfl) rfl rfl rfl (Nat.le_of_ble_eq_true rfl) rfl ?_
  refine z_iload_n (pc := 18) hG 2 rfl rfl dX10_needAnswers_18 ?_
  refine z_iconst (pc := 19) hG kc_m1 dX10_needAnswers_19 ?_
  refine z_ixor (pc := 20) hG dX10_needAnswers_20 ?_
  refine z_iand (pc := 21) hG dX10_needAnswers_21 ?_
  refine z_if_eq (pc := 22) (tgt := 33) hG dX10_needAnswers_22 rfl (fun hc => ?_) (fun hc => ?_)
  · replace h := zif_t hc h
    obtain rfl := Option.some.inj h
    exact z_vret (pc := 33) hG rfl hk dX10_needAnswers_33
  · replace h := zif_f hc h
    obtain rfl := Option.some.inj h
    exact z_throw (pc := 25) hG (by decide) (by decide) w279 w31 hatRX10_222 hbdRX10_222 hgdRX10_222 (by decide) (Nat.le_of_ble_eq_true rfl) (Nat.le_of_ble_eq_true rfl) (Nat.le_of_ble_eq_true rfl) (Nat.le_of_ble_eq_true rfl) dX10_needAnswers_25 dX10_needAnswers_28 dX10_needAnswers_29 dX10_needAnswers_32 hk
noncomputable def jX10_needSet_15 (g : zS) : Option (Unit ⊕ String) :=
  some (.inr "java/lang/IllegalArgumentException")
noncomputable def nX10_needSet (a1 : Int32) (g : zS) : Option (Unit ⊕ String) :=
  if a1 < 0 then (jX10_needSet_15 g) else ((nX6_allFields g).bind fun v1 => if a1 ≤ v1 then (some (.inl ())) else (jX10_needSet_15 g))
set_option maxHeartbeats 60000 in
theorem kjX10_needSet_15 {x : zXx} (hG : zG x cX10_needSet 2 RX10 ((Option.none : Option Jvm.ClassFile.FieldType))) (hl0 : (zl0 x).flags = flags0) (g : zS) {o : (Unit ⊕ String)} (h : jX10_needSet_15 g = some o) (hk : ztg x = (ztV o, zD, g)) : zK x 8 15 [] [] zD g 1 6 := by
  unfold jX10_needSet_15 at h
  obtain rfl := Option.some.inj h
  exact z_throw (pc := 15) hG (by decide) (by decide) w230 w27 hatRX10_112 hbdRX10_112 hgdRX10_112 (by decide) (Nat.le_of_ble_eq_true rfl) (Nat.le_of_ble_eq_true rfl) (Nat.le_of_ble_eq_true rfl) (Nat.le_of_ble_eq_true rfl) dX10_needSet_15 dX10_needSet_18 dX10_needSet_19 dX10_needSet_22 hk
set_option maxHeartbeats 60000 in
theorem tX10_needSet {l : Launch} (hl0 : l.flags = flags0) (a1 : Int32) (g : zS) {r : (Unit ⊕ String)} (h : nX10_needSet a1 g = some r) : zC l yX10_needSet cX10_needSet 2 ((Option.none : Option Jvm.ClassFile.FieldType)) 8 1 6 [.ref 0, .int a1] zD g (ztV r, zD, g) := by
  refine zC_of hl0 rfl (Nat.le_of_ble_eq_true rfl) (fun x hG hxl hk _ => ?_)
  subst hxl
  show zK x 8 0 [(0, .ref 0), (1, .int a1)] [] zD g 1 6
  unfold nX10_needSet at h
  refine z_iload_n (pc := 0) hG 1 rfl rfl dX10_needSet_0 ?_
  refine z_if_lt (pc := 1) (tgt := 15) hG dX10_needSet_1 rfl (fun hc => ?_) (fun hc => ?_)
  · replace h := zif_t hc h
    refine z_sub (ls' := []) [] rfl ?_
    exact kjX10_needSet_15 hG hl0 g h hk
  · replace h := zif_f hc h
    refine z_iload_n (pc := 4) hG 1 rfl rfl dX10_needSet_4 ?_
    refine z_aload_n (pc := 5) hG 0 rfl rfl dX10_needSet_5 ?_
    refine z_getr (pc := 6) hG zc_X10 inX10 DL_0 1 rfl (by decide) rfl w745 dX10_needSet_6 ?_
    replace h := zbind h
    obtain ⟨v1, hv1, h⟩ := h
    refine z_cvI (pc := 9) (A' := 1) (B' := 6) hG [] [.int a1] zc_X6 DL_3 (tX6_allFields hl0  g hv1) zy_X6_allFields ⟨w316, w317⟩ w315 dX10_needSet_9 rfl (Nat.le_of_ble_eq_true rfl) rfl rfl rfl (Nat.le_of_ble_eq_true rfl) rfl ?_
    refine z_icmp_le (pc := 12) (tgt := 23) hG dX10_needSet_12 rfl (fun hc => ?_) (fun hc => ?_)
    · replace h := zif_t hc h
      obtain rfl := Option.some.inj h
      exact z_vret (pc := 23) hG rfl hk dX10_needSet_23
    · replace h := zif_f hc h
      refine z_sub (ls' := []) [] rfl ?_
      exact kjX10_needSet_15 hG hl0 g h hk
noncomputable def nX10_mends (a1 : Int32) (a2 : Int32) (g : zS) : Option (Int32 ⊕ String) :=
  (nX10_needRow a1 g).bind fun v1 => zel v1 (fun w1 => (nX10_needSet a2 g).bind fun v2 => zel v2 (fun w2 => (nX8_codeOf a1 g).bind fun v3 => (nX5_canMend v3 a2 g).bind fun v4 => zchk (znb v4) (some (.inl v4))) (fun e => some (.inr e))) (fun e => some (.inr e))
set_option maxHeartbeats 60000 in
theorem tX10_mends {l : Launch} (hl0 : l.flags = flags0) (a1 : Int32) (a2 : Int32) (g : zS) {r : (Int32 ⊕ String)} (h : nX10_mends a1 a2 g = some r) : zC l yX10_mends cX10_mends 3 ((Option.some Jvm.ClassFile.FieldType.boolean)) 9 2 12 [.ref 0, .int a1, .int a2] zD g (ztI r, zD, g) := by
  refine zC_of hl0 rfl (Nat.le_of_ble_eq_true rfl) (fun x hG hxl hk _ => ?_)
  subst hxl
  show zK x 9 0 [(0, .ref 0), (1, .int a1), (2, .int a2)] [] zD g 2 12
  unfold nX10_mends at h
  refine z_aload_n (pc := 0) hG 0 rfl rfl dX10_mends_0 ?_
  refine z_iload_n (pc := 1) hG 1 rfl rfl dX10_mends_1 ?_
  replace h := zbind h
  obtain ⟨w1 | e, hv1, h⟩ := h
  rotate_left
  · replace h := zel_r h
    obtain rfl := Option.some.inj h
    exact z_cvX (pc := 2) hG [.int a1] [] zc_X10 DL_0 (tX10_needRow hl0 a1 g hv1) zy_X10_needRow ⟨w265, wp11⟩ w263 dX10_mends_2 rfl (Nat.le_of_ble_eq_true rfl) (Nat.le_of_ble_eq_true rfl) (Nat.le_of_ble_eq_true rfl) (Nat.le_of_ble_eq_true rfl) rfl hk
  replace h := zel_l h
  refine z_cvV (pc := 2) (A' := 1) (B' := 6) hG [.int a1] [] zc_X10 DL_0 (tX10_needRow hl0 a1 g hv1) zy_X10_needRow ⟨w265, wp11⟩ w263 dX10_mends_2 rfl (Nat.le_of_ble_eq_true rfl) rfl rfl rfl (Nat.le_of_ble_eq_true rfl) rfl ?_
  refine z_aload_n (pc := 5) hG 0 rfl rfl dX10_mends_5 ?_
  refine z_iload_n (pc := 6) hG 2 rfl rfl dX10_mends_6 ?_
  replace h := zbind h
  obtain ⟨w2 | e, hv2, h⟩ := h
  rotate_left
  · replace h := zel_r h
    obtain rfl := Option.some.inj h
    exact z_cvX (pc := 7) hG [.int a2] [] zc_X10 DL_0 (tX10_needSet hl0 a2 g hv2) zy_X10_needSet ⟨w313, wp14⟩ w311 dX10_mends_7 rfl (Nat.le_of_ble_eq_true rfl) (Nat.le_of_ble_eq_true rfl) (Nat.le_of_ble_eq_true rfl) (Nat.le_of_ble_eq_true rfl) rfl hk
  replace h := zel_l h
  refine z_cvV (pc := 7) (A' := 0) (B' := 0) hG [.int a2] [] zc_X10 DL_0 (tX10_needSet hl0 a2 g hv2) zy_X10_needSet ⟨w313, wp14⟩ w311 dX10_mends_7 rfl (Nat.le_of_ble_eq_true rfl) rfl rfl rfl (Nat.le_of_ble_eq_true rfl) rfl ?_
  refine z_aload_n (pc := 10) hG 0 rfl rfl dX10_mends_10 ?_
  refine z_getr (pc := 11) hG zc_X10 inX10 DL_0 4 rfl (by decide) rfl w748 dX10_mends_11 ?_
  refine z_aload_n (pc := 14) hG 0 rfl rfl dX10_mends_14 ?_
  refine z_getr (pc := 15) hG zc_X10 inX10 DL_0 6 rfl (by decide) rfl w750 dX10_mends_15 ?_
  refine z_iload_n (pc := 18) hG 1 rfl rfl dX10_mends_18 ?_
  replace h := zbind h
  obtain ⟨v3, hv3, h⟩ := h
  refine z_cvI (pc := 19) (A' := 0) (B' := 0) hG [.int a1] [.ref 20] zc_X8 DL_31 (tX8_codeOf hl0 a1 g hv3) zy_X8_codeOf ⟨w272, w273⟩ w271 dX10_mends_19 rfl (Nat.le_of_ble_eq_true rfl) rfl rfl rfl (Nat.le_of_ble_eq_true rfl) rfl ?_
  refine z_iload_n (pc := 22) hG 2 rfl rfl dX10_mends_22 ?_
  replace h := zbind h
  obtain ⟨v4, hv4, h⟩ := h
  refine z_cvI (pc := 23) (A' := 0) (B' := 0) hG [.int v3, .int a2] [] zc_X5 DL_20 (tX5_canMend hl0 v3 a2 g hv4) zy_X5_canMend ⟨w320, w321⟩ w319 dX10_mends_23 rfl (Nat.le_of_ble_eq_true rfl) rfl rfl rfl (Nat.le_of_ble_eq_true rfl) rfl ?_
  replace h := zchk_some h
  obtain ⟨hc, h⟩ := h
  obtain rfl := Option.some.inj h
  exact z_iret (pc := 26) hG rfl (znb_n hc) hk dX10_mends_26
noncomputable def nX10_ways (a1 : Int32) (a2 : Int32) (g : zS) : Option ((Int32 ⊕ String) × zS) :=
  (nX10_needRow a1 g).bind fun v1 => zel v1 (fun w1 => (nX10_needSet a2 g).bind fun v2 => zel v2 (fun w2 => (nX8_codeOf a1 g).bind fun v3 => (nX5_countWays v3 a2 g).bind fun v4 => some ((.inl v4.1, v4.2))) (fun e => some ((.inr e, g)))) (fun e => some ((.inr e, g)))
set_option maxHeartbeats 60000 in
theorem tX10_ways {l : Launch} (hl0 : l.flags = flags0) (a1 : Int32) (a2 : Int32) (g : zS) {r : ((Int32 ⊕ String) × zS)} (h : nX10_ways a1 a2 g = some r) : zC l yX10_ways cX10_ways 3 ((Option.some Jvm.ClassFile.FieldType.int)) 9 2 12 [.ref 0, .int a1, .int a2] zD g (ztI r.1, zD, r.2) := by
  refine zC_of hl0 rfl (Nat.le_of_ble_eq_true rfl) (fun x hG hxl hk _ => ?_)
  subst hxl
  show zK x 9 0 [(0, .ref 0), (1, .int a1), (2, .int a2)] [] zD g 2 12
  unfold nX10_ways at h
  refine z_aload_n (pc := 0) hG 0 rfl rfl dX10_ways_0 ?_
  refine z_iload_n (pc := 1) hG 1 rfl rfl dX10_ways_1 ?_
  replace h := zbind h
  obtain ⟨w1 | e, hv1, h⟩ := h
  rotate_left
  · replace h := zel_r h
    obtain rfl := Option.some.inj h
    exact z_cvX (pc := 2) hG [.int a1] [] zc_X10 DL_0 (tX10_needRow hl0 a1 g hv1) zy_X10_needRow ⟨w265, wp11⟩ w263 dX10_ways_2 rfl (Nat.le_of_ble_eq_true rfl) (Nat.le_of_ble_eq_true rfl) (Nat.le_of_ble_eq_true rfl) (Nat.le_of_ble_eq_true rfl) rfl hk
  replace h := zel_l h
  refine z_cvV (pc := 2) (A' := 1) (B' := 6) hG [.int a1] [] zc_X10 DL_0 (tX10_needRow hl0 a1 g hv1) zy_X10_needRow ⟨w265, wp11⟩ w263 dX10_ways_2 rfl (Nat.le_of_ble_eq_true rfl) rfl rfl rfl (Nat.le_of_ble_eq_true rfl) rfl ?_
  refine z_aload_n (pc := 5) hG 0 rfl rfl dX10_ways_5 ?_
  refine z_iload_n (pc := 6) hG 2 rfl rfl dX10_ways_6 ?_
  replace h := zbind h
  obtain ⟨w2 | e, hv2, h⟩ := h
  rotate_left
  · replace h := zel_r h
    obtain rfl := Option.some.inj h
    exact z_cvX (pc := 7) hG [.int a2] [] zc_X10 DL_0 (tX10_needSet hl0 a2 g hv2) zy_X10_needSet ⟨w313, wp14⟩ w311 dX10_ways_7 rfl (Nat.le_of_ble_eq_true rfl) (Nat.le_of_ble_eq_true rfl) (Nat.le_of_ble_eq_true rfl) (Nat.le_of_ble_eq_true rfl) rfl hk
  replace h := zel_l h
  refine z_cvV (pc := 7) (A' := 0) (B' := 0) hG [.int a2] [] zc_X10 DL_0 (tX10_needSet hl0 a2 g hv2) zy_X10_needSet ⟨w313, wp14⟩ w311 dX10_ways_7 rfl (Nat.le_of_ble_eq_true rfl) rfl rfl rfl (Nat.le_of_ble_eq_true rfl) rfl ?_
  refine z_aload_n (pc := 10) hG 0 rfl rfl dX10_ways_10 ?_
  refine z_getr (pc := 11) hG zc_X10 inX10 DL_0 4 rfl (by decide) rfl w748 dX10_ways_11 ?_
  refine z_aload_n (pc := 14) hG 0 rfl rfl dX10_ways_14 ?_
  refine z_getr (pc := 15) hG zc_X10 inX10 DL_0 6 rfl (by decide) rfl w750 dX10_ways_15 ?_
  refine z_iload_n (pc := 18) hG 1 rfl rfl dX10_ways_18 ?_
  replace h := zbind h
  obtain ⟨v3, hv3, h⟩ := h
  refine z_cvI (pc := 19) (A' := 0) (B' := 0) hG [.int a1] [.ref 20] zc_X8 DL_31 (tX8_codeOf hl0 a1 g hv3) zy_X8_codeOf ⟨w272, w273⟩ w271 dX10_ways_19 rfl (Nat.le_of_ble_eq_true rfl) rfl rfl rfl (Nat.le_of_ble_eq_true rfl) rfl ?_
  refine z_iload_n (pc := 22) hG 2 rfl rfl dX10_ways_22 ?_
  replace h := zbind h
  obtain ⟨v4, hv4, h⟩ := h
  refine z_cvI (pc := 23) (A' := 0) (B' := 0) hG [.int v3, .int a2] [] zc_X5 DL_20 (tX5_countWays hl0 v3 a2 g hv4) zy_X5_countWays ⟨w332, w333⟩ w331 dX10_ways_23 rfl (Nat.le_of_ble_eq_true rfl) rfl rfl rfl (Nat.le_of_ble_eq_true rfl) rfl ?_
  obtain rfl := Option.some.inj h
  exact z_iret (pc := 26) hG rfl rfl hk dX10_ways_26
noncomputable def nX10_least (a1 : Int32) (a2 : Int32) (g : zS) : Option (Int32 ⊕ String) :=
  (nX10_needRow a1 g).bind fun v1 => zel v1 (fun w1 => (nX8_codeOf a1 g).bind fun v2 => if a2 = 0 then ((nX5_leastSet v2 g).bind fun v3 => some (.inl v3)) else (if a2 = 1 then ((nX5_leastWeight v2 g).bind fun v4 => some (.inl v4)) else (if a2 = 2 then ((nX5_countLeast v2 g).bind fun v5 => some (.inl v5)) else (some (.inr "java/util/NoSuchElementException"))))) (fun e => some (.inr e))
set_option maxHeartbeats 60000 in
theorem tX10_least {l : Launch} (hl0 : l.flags = flags0) (a1 : Int32) (a2 : Int32) (g : zS) {r : (Int32 ⊕ String)} (h : nX10_least a1 a2 g = some r) : zC l yX10_least cX10_least 4 ((Option.some Jvm.ClassFile.FieldType.int)) 9 2 12 [.ref 0, .int a1, .int a2] zD g (ztI r, zD, g) := by
  refine zC_of hl0 rfl (Nat.le_of_ble_eq_true rfl) (fun x hG hxl hk _ => ?_)
  subst hxl
  show zK x 9 0 [(0, .ref 0), (1, .int a1), (2, .int a2)] [] zD g 2 12
  unfold nX10_least at h
  refine z_aload_n (pc := 0) hG 0 rfl rfl dX10_least_0 ?_
  refine z_iload_n (pc := 1) hG 1 rfl rfl dX10_least_1 ?_
  replace h := zbind h
  obtain ⟨w1 | e, hv1, h⟩ := h
  rotate_left
  · replace h := zel_r h
    obtain rfl := Option.some.inj h
    exact z_cvX (pc := 2) hG [.int a1] [] zc_X10 DL_0 (tX10_needRow hl0 a1 g hv1) zy_X10_needRow ⟨w265, wp11⟩ w263 dX10_least_2 rfl (Nat.le_of_ble_eq_true rfl) (Nat.le_of_ble_eq_true rfl) (Nat.le_of_ble_eq_true rfl) (Nat.le_of_ble_eq_true rfl) rfl hk
  replace h := zel_l h
  refine z_cvV (pc := 2) (A' := 1) (B' := 6) hG [.int a1] [] zc_X10 DL_0 (tX10_needRow hl0 a1 g hv1) zy_X10_needRow ⟨w265, wp11⟩ w263 dX10_least_2 rfl (Nat.le_of_ble_eq_true rfl) rfl rfl rfl (Nat.le_of_ble_eq_true rfl) rfl ?_
  refine z_aload_n (pc := 5) hG 0 rfl rfl dX10_least_5 ?_
  refine z_getr (pc := 6) hG zc_X10 inX10 DL_0 6 rfl (by decide) rfl w750 dX10_least_6 ?_
  refine z_iload_n (pc := 9) hG 1 rfl rfl dX10_least_9 ?_
  replace h := zbind h
  obtain ⟨v2, hv2, h⟩ := h
  refine z_cvI (pc := 10) (A' := 1) (B' := 6) hG [.int a1] [] zc_X8 DL_31 (tX8_codeOf hl0 a1 g hv2) zy_X8_codeOf ⟨w272, w273⟩ w271 dX10_least_10 rfl (Nat.le_of_ble_eq_true rfl) rfl rfl rfl (Nat.le_of_ble_eq_true rfl) rfl ?_
  refine z_istore_n (pc := 13) (ls' := [(3, .int v2), (0, .ref 0), (1, .int a1), (2, .int a2)]) hG [0, 1, 2, 3] rfl (by decide) rfl dX10_least_13 ?_
  refine z_iload_n (pc := 14) hG 3 rfl rfl dX10_least_14 ?_
  by_cases hc0 : a2 = 0
  · replace h := zif_t hc0 h
    refine z_tabIn (pc := 15) (tgt := 40) hG dX10_least_15 (by rw [hc0]; decide) (by rw [hc0]; decide) (by rw [hc0]; rfl) rfl ?_
    refine z_aload_n (pc := 40) hG 1 rfl rfl dX10_least_40 ?_
    refine z_getr (pc := 41) hG zc_X10 inX10 DL_0 4 rfl (by decide) rfl w748 dX10_least_41 ?_
    refine z_iload_n (pc := 44) hG 0 rfl rfl dX10_least_44 ?_
    replace h := zbind h
    obtain ⟨v3, hv3, h⟩ := h
    refine z_cvI (pc := 45) (A' := 1) (B' := 6) hG [.int v2] [] zc_X5 DL_20 (tX5_leastSet hl0 v2 g hv3) zy_X5_leastSet ⟨w352, w353⟩ w351 dX10_least_45 rfl (Nat.le_of_ble_eq_true rfl) rfl rfl rfl (Nat.le_of_ble_eq_true rfl) rfl ?_
    obtain rfl := Option.some.inj h
    exact z_iret (pc := 48) hG rfl rfl hk dX10_least_48
  replace h := zif_f hc0 h
  by_cases hc1 : a2 = 1
  · replace h := zif_t hc1 h
    refine z_tabIn (pc := 15) (tgt := 49) hG dX10_least_15 (by rw [hc1]; decide) (by rw [hc1]; decide) (by rw [hc1]; rfl) rfl ?_
    refine z_aload_n (pc := 49) hG 1 rfl rfl dX10_least_49 ?_
    refine z_getr (pc := 50) hG zc_X10 inX10 DL_0 4 rfl (by decide) rfl w748 dX10_least_50 ?_
    refine z_iload_n (pc := 53) hG 0 rfl rfl dX10_least_53 ?_
    replace h := zbind h
    obtain ⟨v4, hv4, h⟩ := h
    refine z_cvI (pc := 54) (A' := 1) (B' := 6) hG [.int v2] [] zc_X5 DL_20 (tX5_leastWeight hl0 v2 g hv4) zy_X5_leastWeight ⟨w357, w358⟩ w356 dX10_least_54 rfl (Nat.le_of_ble_eq_true rfl) rfl rfl rfl (Nat.le_of_ble_eq_true rfl) rfl ?_
    obtain rfl := Option.some.inj h
    exact z_iret (pc := 57) hG rfl rfl hk dX10_least_57
  replace h := zif_f hc1 h
  by_cases hc2 : a2 = 2
  · replace h := zif_t hc2 h
    refine z_tabIn (pc := 15) (tgt := 58) hG dX10_least_15 (by rw [hc2]; decide) (by rw [hc2]; decide) (by rw [hc2]; rfl) rfl ?_
    refine z_aload_n (pc := 58) hG 1 rfl rfl dX10_least_58 ?_
    refine z_getr (pc := 59) hG zc_X10 inX10 DL_0 4 rfl (by decide) rfl w748 dX10_least_59 ?_
    refine z_iload_n (pc := 62) hG 0 rfl rfl dX10_least_62 ?_
    replace h := zbind h
    obtain ⟨v5, hv5, h⟩ := h
    refine z_cvI (pc := 63) (A' := 1) (B' := 6) hG [.int v2] [] zc_X5 DL_20 (tX5_countLeast hl0 v2 g hv5) zy_X5_countLeast ⟨w366, w367⟩ w365 dX10_least_63 rfl (Nat.le_of_ble_eq_true rfl) rfl rfl rfl (Nat.le_of_ble_eq_true rfl) rfl ?_
    obtain rfl := Option.some.inj h
    exact z_iret (pc := 66) hG rfl rfl hk dX10_least_66
  replace h := zif_f hc2 h
  refine z_tabOut (pc := 15) (tgt := 67) hG dX10_least_15 (ztab_out (n := 2) (fun k hk => by
    match k, hk with
    | 0, _ => exact hc0
    | 1, _ => exact hc1
    | 2, _ => exact hc2
    | k + 3, hk => omega)) rfl ?_
  obtain rfl := Option.some.inj h
  exact z_throw (pc := 67) hG (by decide) (by decide) w107 w30 hatRX10_145 hbdRX10_145 hgdRX10_145 (by decide) (Nat.le_of_ble_eq_true rfl) (Nat.le_of_ble_eq_true rfl) (Nat.le_of_ble_eq_true rfl) (Nat.le_of_ble_eq_true rfl) dX10_least_67 dX10_least_70 dX10_least_71 dX10_least_74 hk
noncomputable def nX10_leastOf (a1 : Int32) (a2 : Int32) (g : zS) : Option (Int32 ⊕ String) :=
  (nX10_needRow a1 g).bind fun v1 => zel v1 (fun w1 => (nX8_codeOf a1 g).bind fun v2 => (nX5_leastAt v2 a2 g).bind fun v3 => some (.inl v3)) (fun e => some (.inr e))
set_option maxHeartbeats 60000 in
theorem tX10_leastOf {l : Launch} (hl0 : l.flags = flags0) (a1 : Int32) (a2 : Int32) (g : zS) {r : (Int32 ⊕ String)} (h : nX10_leastOf a1 a2 g = some r) : zC l yX10_leastOf cX10_leastOf 3 ((Option.some Jvm.ClassFile.FieldType.int)) 9 1 6 [.ref 0, .int a1, .int a2] zD g (ztI r, zD, g) := by
  refine zC_of hl0 rfl (Nat.le_of_ble_eq_true rfl) (fun x hG hxl hk _ => ?_)
  subst hxl
  show zK x 9 0 [(0, .ref 0), (1, .int a1), (2, .int a2)] [] zD g 1 6
  unfold nX10_leastOf at h
  refine z_aload_n (pc := 0) hG 0 rfl rfl dX10_leastOf_0 ?_
  refine z_iload_n (pc := 1) hG 1 rfl rfl dX10_leastOf_1 ?_
  replace h := zbind h
  obtain ⟨w1 | e, hv1, h⟩ := h
  rotate_left
  · replace h := zel_r h
    obtain rfl := Option.some.inj h
    exact z_cvX (pc := 2) hG [.int a1] [] zc_X10 DL_0 (tX10_needRow hl0 a1 g hv1) zy_X10_needRow ⟨w265, wp11⟩ w263 dX10_leastOf_2 rfl (Nat.le_of_ble_eq_true rfl) (Nat.le_of_ble_eq_true rfl) (Nat.le_of_ble_eq_true rfl) (Nat.le_of_ble_eq_true rfl) rfl hk
  replace h := zel_l h
  refine z_cvV (pc := 2) (A' := 0) (B' := 0) hG [.int a1] [] zc_X10 DL_0 (tX10_needRow hl0 a1 g hv1) zy_X10_needRow ⟨w265, wp11⟩ w263 dX10_leastOf_2 rfl (Nat.le_of_ble_eq_true rfl) rfl rfl rfl (Nat.le_of_ble_eq_true rfl) rfl ?_
  refine z_aload_n (pc := 5) hG 0 rfl rfl dX10_leastOf_5 ?_
  refine z_getr (pc := 6) hG zc_X10 inX10 DL_0 4 rfl (by decide) rfl w748 dX10_leastOf_6 ?_
  refine z_aload_n (pc := 9) hG 0 rfl rfl dX10_leastOf_9 ?_
  refine z_getr (pc := 10) hG zc_X10 inX10 DL_0 6 rfl (by decide) rfl w750 dX10_leastOf_10 ?_
  refine z_iload_n (pc := 13) hG 1 rfl rfl dX10_leastOf_13 ?_
  replace h := zbind h
  obtain ⟨v2, hv2, h⟩ := h
  refine z_cvI (pc := 14) (A' := 0) (B' := 0) hG [.int a1] [.ref 20] zc_X8 DL_31 (tX8_codeOf hl0 a1 g hv2) zy_X8_codeOf ⟨w272, w273⟩ w271 dX10_leastOf_14 rfl (Nat.le_of_ble_eq_true rfl) rfl rfl rfl (Nat.le_of_ble_eq_true rfl) rfl ?_
  refine z_iload_n (pc := 17) hG 2 rfl rfl dX10_leastOf_17 ?_
  replace h := zbind h
  obtain ⟨v3, hv3, h⟩ := h
  refine z_cvI (pc := 18) (A' := 0) (B' := 0) hG [.int v2, .int a2] [] zc_X5 DL_20 (tX5_leastAt hl0 v2 a2 g hv3) zy_X5_leastAt ⟨w375, w376⟩ w374 dX10_leastOf_18 rfl (Nat.le_of_ble_eq_true rfl) rfl rfl rfl (Nat.le_of_ble_eq_true rfl) rfl ?_
  obtain rfl := Option.some.inj h
  exact z_iret (pc := 21) hG rfl rfl hk dX10_leastOf_21
noncomputable def nX10_values (a1 : Int32) (a2 : Int32) (a3 : Int32) (g : zS) : Option (Int32 ⊕ String) :=
  (nX10_needRow a1 g).bind fun v1 => zel v1 (fun w1 => (nX10_needField a3 g).bind fun v2 => zel v2 (fun w2 => (nX10_needSet a2 g).bind fun v3 => zel v3 (fun w3 => (nX8_codeOf a1 g).bind fun v4 => (nX5_valuesIn v4 a2 a3 g).bind fun v5 => some (.inl v5)) (fun e => some (.inr e))) (fun e => some (.inr e))) (fun e => some (.inr e))
set_option maxHeartbeats 60000 in
theorem tX10_values {l : Launch} (hl0 : l.flags = flags0) (a1 : Int32) (a2 : Int32) (a3 : Int32) (g : zS) {r : (Int32 ⊕ String)} (h : nX10_values a1 a2 a3 g = some r) : zC l yX10_values cX10_values 4 ((Option.some Jvm.ClassFile.FieldType.int)) 9 3 18 [.ref 0, .int a1, .int a2, .int a3] zD g (ztI r, zD, g) := by
  refine zC_of hl0 rfl (Nat.le_of_ble_eq_true rfl) (fun x hG hxl hk _ => ?_)
  subst hxl
  show zK x 9 0 [(0, .ref 0), (1, .int a1), (2, .int a2), (3, .int a3)] [] zD g 3 18
  unfold nX10_values at h
  refine z_aload_n (pc := 0) hG 0 rfl rfl dX10_values_0 ?_
  refine z_iload_n (pc := 1) hG 1 rfl rfl dX10_values_1 ?_
  replace h := zbind h
  obtain ⟨w1 | e, hv1, h⟩ := h
  rotate_left
  · replace h := zel_r h
    obtain rfl := Option.some.inj h
    exact z_cvX (pc := 2) hG [.int a1] [] zc_X10 DL_0 (tX10_needRow hl0 a1 g hv1) zy_X10_needRow ⟨w265, wp11⟩ w263 dX10_values_2 rfl (Nat.le_of_ble_eq_true rfl) (Nat.le_of_ble_eq_true rfl) (Nat.le_of_ble_eq_true rfl) (Nat.le_of_ble_eq_true rfl) rfl hk
  replace h := zel_l h
  refine z_cvV (pc := 2) (A' := 2) (B' := 12) hG [.int a1] [] zc_X10 DL_0 (tX10_needRow hl0 a1 g hv1) zy_X10_needRow ⟨w265, wp11⟩ w263 dX10_values_2 rfl (Nat.le_of_ble_eq_true rfl) rfl rfl rfl (Nat.le_of_ble_eq_true rfl) rfl ?_
  refine z_aload_n (pc := 5) hG 0 rfl rfl dX10_values_5 ?_
  refine z_iload_n (pc := 6) hG 3 rfl rfl dX10_values_6 ?_
  replace h := zbind h
  obtain ⟨w2 | e, hv2, h⟩ := h
  rotate_left
  · replace h := zel_r h
    obtain rfl := Option.some.inj h
    exact z_cvX (pc := 7) hG [.int a3] [] zc_X10 DL_0 (tX10_needField hl0 a3 g hv2) zy_X10_needField ⟨w38, wp0⟩ w36 dX10_values_7 rfl (Nat.le_of_ble_eq_true rfl) (Nat.le_of_ble_eq_true rfl) (Nat.le_of_ble_eq_true rfl) (Nat.le_of_ble_eq_true rfl) rfl hk
  replace h := zel_l h
  refine z_cvV (pc := 7) (A' := 1) (B' := 6) hG [.int a3] [] zc_X10 DL_0 (tX10_needField hl0 a3 g hv2) zy_X10_needField ⟨w38, wp0⟩ w36 dX10_values_7 rfl (Nat.le_of_ble_eq_true rfl) rfl rfl rfl (Nat.le_of_ble_eq_true rfl) rfl ?_
  refine z_aload_n (pc := 10) hG 0 rfl rfl dX10_values_10 ?_
  refine z_iload_n (pc := 11) hG 2 rfl rfl dX10_values_11 ?_
  replace h := zbind h
  obtain ⟨w3 | e, hv3, h⟩ := h
  rotate_left
  · replace h := zel_r h
    obtain rfl := Option.some.inj h
    exact z_cvX (pc := 12) hG [.int a2] [] zc_X10 DL_0 (tX10_needSet hl0 a2 g hv3) zy_X10_needSet ⟨w313, wp14⟩ w311 dX10_values_12 rfl (Nat.le_of_ble_eq_true rfl) (Nat.le_of_ble_eq_true rfl) (Nat.le_of_ble_eq_true rfl) (Nat.le_of_ble_eq_true rfl) rfl hk
  replace h := zel_l h
  refine z_cvV (pc := 12) (A' := 0) (B' := 0) hG [.int a2] [] zc_X10 DL_0 (tX10_needSet hl0 a2 g hv3) zy_X10_needSet ⟨w313, wp14⟩ w311 dX10_values_12 rfl (Nat.le_of_ble_eq_true rfl) rfl rfl rfl (Nat.le_of_ble_eq_true rfl) rfl ?_
  refine z_aload_n (pc := 15) hG 0 rfl rfl dX10_values_15 ?_
  refine z_getr (pc := 16) hG zc_X10 inX10 DL_0 4 rfl (by decide) rfl w748 dX10_values_16 ?_
  refine z_aload_n (pc := 19) hG 0 rfl rfl dX10_values_19 ?_
  refine z_getr (pc := 20) hG zc_X10 inX10 DL_0 6 rfl (by decide) rfl w750 dX10_values_20 ?_
  refine z_iload_n (pc := 23) hG 1 rfl rfl dX10_values_23 ?_
  replace h := zbind h
  obtain ⟨v4, hv4, h⟩ := h
  refine z_cvI (pc := 24) (A' := 0) (B' := 0) hG [.int a1] [.ref 20] zc_X8 DL_31 (tX8_codeOf hl0 a1 g hv4) zy_X8_codeOf ⟨w272, w273⟩ w271 dX10_values_24 rfl (Nat.le_of_ble_eq_true rfl) rfl rfl rfl (Nat.le_of_ble_eq_true rfl) rfl ?_
  refine z_iload_n (pc := 27) hG 2 rfl rfl dX10_values_27 ?_
  refine z_iload_n (pc := 28) hG 3 rfl rfl dX10_values_28 ?_
  replace h := zbind h
  obtain ⟨v5, hv5, h⟩ := h
  refine z_cvI (pc := 29) (A' := 0) (B' := 0) hG [.int v4, .int a2, .int a3] [] zc_X5 DL_20 (tX5_valuesIn hl0 v4 a2 a3 g hv5) zy_X5_valuesIn ⟨w383, w384⟩ w382 dX10_values_29 rfl (Nat.le_of_ble_eq_true rfl) rfl rfl rfl (Nat.le_of_ble_eq_true rfl) rfl ?_
  obtain rfl := Option.some.inj h
  exact z_iret (pc := 32) hG rfl rfl hk dX10_values_32
noncomputable def nX10_forced (a1 : Int32) (g : zS) : Option (Int32 ⊕ String) :=
  (nX10_needRow a1 g).bind fun v1 => zel v1 (fun w1 => (nX8_codeOf a1 g).bind fun v2 => (nX5_forcedIn v2 g).bind fun v3 => some (.inl v3)) (fun e => some (.inr e))
set_option maxHeartbeats 60000 in
theorem tX10_forced {l : Launch} (hl0 : l.flags = flags0) (a1 : Int32) (g : zS) {r : (Int32 ⊕ String)} (h : nX10_forced a1 g = some r) : zC l yX10_forced cX10_forced 2 ((Option.some Jvm.ClassFile.FieldType.int)) 9 1 6 [.ref 0, .int a1] zD g (ztI r, zD, g) := by
  refine zC_of hl0 rfl (Nat.le_of_ble_eq_true rfl) (fun x hG hxl hk _ => ?_)
  subst hxl
  show zK x 9 0 [(0, .ref 0), (1, .int a1)] [] zD g 1 6
  unfold nX10_forced at h
  refine z_aload_n (pc := 0) hG 0 rfl rfl dX10_forced_0 ?_
  refine z_iload_n (pc := 1) hG 1 rfl rfl dX10_forced_1 ?_
  replace h := zbind h
  obtain ⟨w1 | e, hv1, h⟩ := h
  rotate_left
  · replace h := zel_r h
    obtain rfl := Option.some.inj h
    exact z_cvX (pc := 2) hG [.int a1] [] zc_X10 DL_0 (tX10_needRow hl0 a1 g hv1) zy_X10_needRow ⟨w265, wp11⟩ w263 dX10_forced_2 rfl (Nat.le_of_ble_eq_true rfl) (Nat.le_of_ble_eq_true rfl) (Nat.le_of_ble_eq_true rfl) (Nat.le_of_ble_eq_true rfl) rfl hk
  replace h := zel_l h
  refine z_cvV (pc := 2) (A' := 0) (B' := 0) hG [.int a1] [] zc_X10 DL_0 (tX10_needRow hl0 a1 g hv1) zy_X10_needRow ⟨w265, wp11⟩ w263 dX10_forced_2 rfl (Nat.le_of_ble_eq_true rfl) rfl rfl rfl (Nat.le_of_ble_eq_true rfl) rfl ?_
  refine z_aload_n (pc := 5) hG 0 rfl rfl dX10_forced_5 ?_
  refine z_getr (pc := 6) hG zc_X10 inX10 DL_0 4 rfl (by decide) rfl w748 dX10_forced_6 ?_
  refine z_aload_n (pc := 9) hG 0 rfl rfl dX10_forced_9 ?_
  refine z_getr (pc := 10) hG zc_X10 inX10 DL_0 6 rfl (by decide) rfl w750 dX10_forced_10 ?_
  refine z_iload_n (pc := 13) hG 1 rfl rfl dX10_forced_13 ?_
  replace h := zbind h
  obtain ⟨v2, hv2, h⟩ := h
  refine z_cvI (pc := 14) (A' := 0) (B' := 0) hG [.int a1] [.ref 20] zc_X8 DL_31 (tX8_codeOf hl0 a1 g hv2) zy_X8_codeOf ⟨w272, w273⟩ w271 dX10_forced_14 rfl (Nat.le_of_ble_eq_true rfl) rfl rfl rfl (Nat.le_of_ble_eq_true rfl) rfl ?_
  replace h := zbind h
  obtain ⟨v3, hv3, h⟩ := h
  refine z_cvI (pc := 17) (A' := 0) (B' := 0) hG [.int v2] [] zc_X5 DL_20 (tX5_forcedIn hl0 v2 g hv3) zy_X5_forcedIn ⟨w395, w396⟩ w394 dX10_forced_17 rfl (Nat.le_of_ble_eq_true rfl) rfl rfl rfl (Nat.le_of_ble_eq_true rfl) rfl ?_
  obtain rfl := Option.some.inj h
  exact z_iret (pc := 20) hG rfl rfl hk dX10_forced_20
noncomputable def jX10_needWay_9  : Option (Unit ⊕ String) :=
  some (.inr "java/lang/IllegalArgumentException")
noncomputable def nX10_needWay (a1 : Int32) : Option (Unit ⊕ String) :=
  if a1 < 0 then (jX10_needWay_9 ) else (if a1 ≤ (2 : Int32) then (some (.inl ())) else (jX10_needWay_9 ))
set_option maxHeartbeats 60000 in
theorem kjX10_needWay_9 {x : zXx} (hG : zG x cX10_needWay 2 RX10 ((Option.none : Option Jvm.ClassFile.FieldType))) (hl0 : (zl0 x).flags = flags0) (g : zS) {o : (Unit ⊕ String)} (h : jX10_needWay_9  = some o) (hk : ztg x = (ztV o, zD, g)) : zK x 8 9 [] [] zD g 1 6 := by
  unfold jX10_needWay_9 at h
  obtain rfl := Option.some.inj h
  exact z_throw (pc := 9) hG (by decide) (by decide) w230 w27 hatRX10_112 hbdRX10_112 hgdRX10_112 (by decide) (Nat.le_of_ble_eq_true rfl) (Nat.le_of_ble_eq_true rfl) (Nat.le_of_ble_eq_true rfl) (Nat.le_of_ble_eq_true rfl) dX10_needWay_9 dX10_needWay_12 dX10_needWay_13 dX10_needWay_16 hk
set_option maxHeartbeats 60000 in
theorem tX10_needWay {l : Launch} (hl0 : l.flags = flags0) (a1 : Int32) (g : zS) {r : (Unit ⊕ String)} (h : nX10_needWay a1 = some r) : zC l yX10_needWay cX10_needWay 2 ((Option.none : Option Jvm.ClassFile.FieldType)) 8 1 6 [.ref 0, .int a1] zD g (ztV r, zD, g) := by
  refine zC_of hl0 rfl (Nat.le_of_ble_eq_true rfl) (fun x hG hxl hk _ => ?_)
  subst hxl
  show zK x 8 0 [(0, .ref 0), (1, .int a1)] [] zD g 1 6
  unfold nX10_needWay at h
  refine z_iload_n (pc := 0) hG 1 rfl rfl dX10_needWay_0 ?_
  refine z_if_lt (pc := 1) (tgt := 9) hG dX10_needWay_1 rfl (fun hc => ?_) (fun hc => ?_)
  · replace h := zif_t hc h
    refine z_sub (ls' := []) [] rfl ?_
    exact kjX10_needWay_9 hG hl0 g h hk
  · replace h := zif_f hc h
    refine z_iload_n (pc := 4) hG 1 rfl rfl dX10_needWay_4 ?_
    refine z_iconst (pc := 5) hG kc_2 dX10_needWay_5 ?_
    refine z_icmp_le (pc := 6) (tgt := 17) hG dX10_needWay_6 rfl (fun hc => ?_) (fun hc => ?_)
    · replace h := zif_t hc h
      obtain rfl := Option.some.inj h
      exact z_vret (pc := 17) hG rfl hk dX10_needWay_17
    · replace h := zif_f hc h
      refine z_sub (ls' := []) [] rfl ?_
      exact kjX10_needWay_9 hG hl0 g h hk
noncomputable def nX10_would (a1 : Int32) (a2 : Int32) (g : zS) : Option ((Int32 ⊕ String) × zS) :=
  (nX10_needRow a1 g).bind fun v1 => zel v1 (fun w1 => (nX10_needWay a2).bind fun v2 => zel v2 (fun w2 => (nX2_mended a1 a2 g).bind fun v3 => if v3.1 = (-1 : Int32) then (some ((.inl (-1 : Int32), v3.2))) else ((nX1_toDigits v3.1 (v3.2.1 3 0)).bind fun v4 => some ((.inl v4, v3.2)))) (fun e => some ((.inr e, g)))) (fun e => some ((.inr e, g)))
set_option maxHeartbeats 60000 in
theorem tX10_would {l : Launch} (hl0 : l.flags = flags0) (a1 : Int32) (a2 : Int32) (g : zS) {r : ((Int32 ⊕ String) × zS)} (h : nX10_would a1 a2 g = some r) : zC l yX10_would cX10_would 4 ((Option.some Jvm.ClassFile.FieldType.int)) 9 2 12 [.ref 0, .int a1, .int a2] zD g (ztI r.1, zD, r.2) := by
  refine zC_of hl0 rfl (Nat.le_of_ble_eq_true rfl) (fun x hG hxl hk _ => ?_)
  subst hxl
  show zK x 9 0 [(0, .ref 0), (1, .int a1), (2, .int a2)] [] zD g 2 12
  unfold nX10_would at h
  refine z_aload_n (pc := 0) hG 0 rfl rfl dX10_would_0 ?_
  refine z_iload_n (pc := 1) hG 1 rfl rfl dX10_would_1 ?_
  replace h := zbind h
  obtain ⟨w1 | e, hv1, h⟩ := h
  rotate_left
  · replace h := zel_r h
    obtain rfl := Option.some.inj h
    exact z_cvX (pc := 2) hG [.int a1] [] zc_X10 DL_0 (tX10_needRow hl0 a1 g hv1) zy_X10_needRow ⟨w265, wp11⟩ w263 dX10_would_2 rfl (Nat.le_of_ble_eq_true rfl) (Nat.le_of_ble_eq_true rfl) (Nat.le_of_ble_eq_true rfl) (Nat.le_of_ble_eq_true rfl) rfl hk
  replace h := zel_l h
  refine z_cvV (pc := 2) (A' := 1) (B' := 6) hG [.int a1] [] zc_X10 DL_0 (tX10_needRow hl0 a1 g hv1) zy_X10_needRow ⟨w265, wp11⟩ w263 dX10_would_2 rfl (Nat.le_of_ble_eq_true rfl) rfl rfl rfl (Nat.le_of_ble_eq_true rfl) rfl ?_
  refine z_aload_n (pc := 5) hG 0 rfl rfl dX10_would_5 ?_
  refine z_iload_n (pc := 6) hG 2 rfl rfl dX10_would_6 ?_
  replace h := zbind h
  obtain ⟨w2 | e, hv2, h⟩ := h
  rotate_left
  · replace h := zel_r h
    obtain rfl := Option.some.inj h
    exact z_cvX (pc := 7) hG [.int a2] [] zc_X10 DL_0 (tX10_needWay hl0 a2 g hv2) zy_X10_needWay ⟨w411, wp18⟩ w409 dX10_would_7 rfl (Nat.le_of_ble_eq_true rfl) (Nat.le_of_ble_eq_true rfl) (Nat.le_of_ble_eq_true rfl) (Nat.le_of_ble_eq_true rfl) rfl hk
  replace h := zel_l h
  refine z_cvV (pc := 7) (A' := 0) (B' := 0) hG [.int a2] [] zc_X10 DL_0 (tX10_needWay hl0 a2 g hv2) zy_X10_needWay ⟨w411, wp18⟩ w409 dX10_would_7 rfl (Nat.le_of_ble_eq_true rfl) rfl rfl rfl (Nat.le_of_ble_eq_true rfl) rfl ?_
  refine z_aload_n (pc := 10) hG 0 rfl rfl dX10_would_10 ?_
  refine z_getr (pc := 11) hG zc_X10 inX10 DL_0 7 rfl (by decide) rfl w751 dX10_would_11 ?_
  refine z_iload_n (pc := 14) hG 1 rfl rfl dX10_would_14 ?_
  refine z_iload_n (pc := 15) hG 2 rfl rfl dX10_would_15 ?_
  replace h := zbind h
  obtain ⟨v3, hv3, h⟩ := h
  refine z_cvI (pc := 16) (A' := 0) (B' := 0) hG [.int a1, .int a2] [] zc_X2 DL_34 (tX2_mended hl0 a1 a2 g hv3) zy_X2_mended ⟨w414, w415⟩ w413 dX10_would_16 rfl (Nat.le_of_ble_eq_true rfl) rfl rfl rfl (Nat.le_of_ble_eq_true rfl) rfl ?_
  refine z_istore_n (pc := 19) (ls' := [(3, .int v3.1), (0, .ref 0), (1, .int a1), (2, .int a2)]) hG [0, 1, 2, 3] rfl (by decide) rfl dX10_would_19 ?_
  refine z_iload_n (pc := 20) hG 0 rfl rfl dX10_would_20 ?_
  refine z_iconst (pc := 21) hG kc_m1 dX10_would_21 ?_
  refine z_icmp_ne (pc := 22) (tgt := 29) hG dX10_would_22 rfl (fun hc => ?_) (fun hc => ?_)
  · replace h := zif_f hc h
    refine z_iload_n (pc := 29) hG 0 rfl rfl dX10_would_29 ?_
    refine z_aload_n (pc := 30) hG 1 rfl rfl dX10_would_30 ?_
    refine z_getr (pc := 31) hG zc_X10 inX10 DL_0 1 rfl (by decide) rfl w745 dX10_would_31 ?_
    refine z_geti (pc := 34) hG zc_X6 inX6 DL_3 0 rfl (by decide) rfl w537 dX10_would_34 ?_
    replace h := zbind h
    obtain ⟨v4, hv4, h⟩ := h
    refine z_csI (pc := 37) (A' := 0) (B' := 0) hG [.int v3.1, .int (v3.2.1 3 0)] [] (tX1_toDigits hl0 v3.1 (v3.2.1 3 0) v3.2 hv4) zy_X1_toDigits w477 w476 dX10_would_37 rfl (Nat.le_of_ble_eq_true rfl) rfl rfl rfl (Nat.le_of_ble_eq_true rfl) rfl ?_
    obtain rfl := Option.some.inj h
    exact z_iret (pc := 40) hG rfl rfl hk dX10_would_40
  · replace h := zif_t hc h
    refine z_iconst (pc := 25) hG kc_m1 dX10_would_25 ?_
    refine z_goto (pc := 26) (tgt := 40) hG dX10_would_26 rfl ?_
    obtain rfl := Option.some.inj h
    exact z_iret (pc := 40) hG rfl rfl hk dX10_would_40
noncomputable def nX10_count (a1 : Int32) (g : zS) : Option Int32 :=
  if a1 = 0 then (some ((g.1 3 0))) else (if a1 = 1 then (some ((g.1 3 7))) else (if a1 = 2 then (some ((g.1 31 1))) else (if a1 = 3 then ((nX4_countRight g).bind fun v1 => some (v1)) else (if a1 = 4 then ((nX4_countMissing g).bind fun v2 => some (v2)) else (if a1 = 5 then (some ((g.1 31 2))) else (if a1 = 6 then (some ((g.1 3 6))) else (if a1 = 7 then ((nX6_allForms g).bind fun v3 => some (v3)) else (if a1 = 8 then (some ((g.1 0 11))) else (if a1 = 9 then ((nX6_allFields g).bind fun v4 => (nX6_weightOf v4 g).bind fun v5 => some (v5)) else (if a1 = 10 then ((nX4_countMendable g).bind fun v6 => some (v6)) else (some ((-1 : Int32)))))))))))))
set_option maxHeartbeats 60000 in
theorem tX10_count {l : Launch} (hl0 : l.flags = flags0) (a1 : Int32) (g : zS) {r : Int32} (h : nX10_count a1 g = some r) : zC l yX10_count cX10_count 2 ((Option.some Jvm.ClassFile.FieldType.int)) 4 0 0 [.ref 0, .int a1] zD g (.inl (some (.int r)), zD, g) := by
  refine zC_of hl0 rfl (Nat.le_of_ble_eq_true rfl) (fun x hG hxl hk _ => ?_)
  subst hxl
  show zK x 4 0 [(0, .ref 0), (1, .int a1)] [] zD g 0 0
  unfold nX10_count at h
  refine z_iload_n (pc := 0) hG 1 rfl rfl dX10_count_0 ?_
  by_cases hc0 : a1 = 0
  · replace h := zif_t hc0 h
    refine z_tabIn (pc := 1) (tgt := 60) hG dX10_count_1 (by rw [hc0]; decide) (by rw [hc0]; decide) (by rw [hc0]; rfl) rfl ?_
    refine z_aload_n (pc := 60) hG 0 rfl rfl dX10_count_60 ?_
    refine z_getr (pc := 61) hG zc_X10 inX10 DL_0 1 rfl (by decide) rfl w745 dX10_count_61 ?_
    refine z_geti (pc := 64) hG zc_X6 inX6 DL_3 0 rfl (by decide) rfl w537 dX10_count_64 ?_
    obtain rfl := Option.some.inj h
    exact z_iret (pc := 67) hG rfl rfl hk dX10_count_67
  replace h := zif_f hc0 h
  by_cases hc1 : a1 = 1
  · replace h := zif_t hc1 h
    refine z_tabIn (pc := 1) (tgt := 68) hG dX10_count_1 (by rw [hc1]; decide) (by rw [hc1]; decide) (by rw [hc1]; rfl) rfl ?_
    refine z_aload_n (pc := 68) hG 0 rfl rfl dX10_count_68 ?_
    refine z_getr (pc := 69) hG zc_X10 inX10 DL_0 1 rfl (by decide) rfl w745 dX10_count_69 ?_
    refine z_geti (pc := 72) hG zc_X6 inX6 DL_3 7 rfl (by decide) rfl w560 dX10_count_72 ?_
    obtain rfl := Option.some.inj h
    exact z_iret (pc := 75) hG rfl rfl hk dX10_count_75
  replace h := zif_f hc1 h
  by_cases hc2 : a1 = 2
  · replace h := zif_t hc2 h
    refine z_tabIn (pc := 1) (tgt := 76) hG dX10_count_1 (by rw [hc2]; decide) (by rw [hc2]; decide) (by rw [hc2]; rfl) rfl ?_
    refine z_aload_n (pc := 76) hG 0 rfl rfl dX10_count_76 ?_
    refine z_getr (pc := 77) hG zc_X10 inX10 DL_0 6 rfl (by decide) rfl w750 dX10_count_77 ?_
    refine z_geti (pc := 80) hG zc_X8 inX8 DL_31 1 rfl (by decide) rfl w685 dX10_count_80 ?_
    obtain rfl := Option.some.inj h
    exact z_iret (pc := 83) hG rfl rfl hk dX10_count_83
  replace h := zif_f hc2 h
  by_cases hc3 : a1 = 3
  · replace h := zif_t hc3 h
    refine z_tabIn (pc := 1) (tgt := 84) hG dX10_count_1 (by rw [hc3]; decide) (by rw [hc3]; decide) (by rw [hc3]; rfl) rfl ?_
    refine z_aload_n (pc := 84) hG 0 rfl rfl dX10_count_84 ?_
    refine z_getr (pc := 85) hG zc_X10 inX10 DL_0 8 rfl (by decide) rfl w752 dX10_count_85 ?_
    replace h := zbind h
    obtain ⟨v1, hv1, h⟩ := h
    refine z_cvI (pc := 88) (A' := 0) (B' := 0) hG [] [] zc_X4 DL_37 (tX4_countRight hl0  g hv1) zy_X4_countRight ⟨w484, w485⟩ w483 dX10_count_88 rfl (Nat.le_of_ble_eq_true rfl) rfl rfl rfl (Nat.le_of_ble_eq_true rfl) rfl ?_
    obtain rfl := Option.some.inj h
    exact z_iret (pc := 91) hG rfl rfl hk dX10_count_91
  replace h := zif_f hc3 h
  by_cases hc4 : a1 = 4
  · replace h := zif_t hc4 h
    refine z_tabIn (pc := 1) (tgt := 92) hG dX10_count_1 (by rw [hc4]; decide) (by rw [hc4]; decide) (by rw [hc4]; rfl) rfl ?_
    refine z_aload_n (pc := 92) hG 0 rfl rfl dX10_count_92 ?_
    refine z_getr (pc := 93) hG zc_X10 inX10 DL_0 8 rfl (by decide) rfl w752 dX10_count_93 ?_
    replace h := zbind h
    obtain ⟨v2, hv2, h⟩ := h
    refine z_cvI (pc := 96) (A' := 0) (B' := 0) hG [] [] zc_X4 DL_37 (tX4_countMissing hl0  g hv2) zy_X4_countMissing ⟨w489, w490⟩ w488 dX10_count_96 rfl (Nat.le_of_ble_eq_true rfl) rfl rfl rfl (Nat.le_of_ble_eq_true rfl) rfl ?_
    obtain rfl := Option.some.inj h
    exact z_iret (pc := 99) hG rfl rfl hk dX10_count_99
  replace h := zif_f hc4 h
  by_cases hc5 : a1 = 5
  · replace h := zif_t hc5 h
    refine z_tabIn (pc := 1) (tgt := 100) hG dX10_count_1 (by rw [hc5]; decide) (by rw [hc5]; decide) (by rw [hc5]; rfl) rfl ?_
    refine z_aload_n (pc := 100) hG 0 rfl rfl dX10_count_100 ?_
    refine z_getr (pc := 101) hG zc_X10 inX10 DL_0 6 rfl (by decide) rfl w750 dX10_count_101 ?_
    refine z_geti (pc := 104) hG zc_X8 inX8 DL_31 2 rfl (by decide) rfl w687 dX10_count_104 ?_
    obtain rfl := Option.some.inj h
    exact z_iret (pc := 107) hG rfl rfl hk dX10_count_107
  replace h := zif_f hc5 h
  by_cases hc6 : a1 = 6
  · replace h := zif_t hc6 h
    refine z_tabIn (pc := 1) (tgt := 108) hG dX10_count_1 (by rw [hc6]; decide) (by rw [hc6]; decide) (by rw [hc6]; rfl) rfl ?_
    refine z_aload_n (pc := 108) hG 0 rfl rfl dX10_count_108 ?_
    refine z_getr (pc := 109) hG zc_X10 inX10 DL_0 1 rfl (by decide) rfl w745 dX10_count_109 ?_
    refine z_geti (pc := 112) hG zc_X6 inX6 DL_3 6 rfl (by decide) rfl w556 dX10_count_112 ?_
    obtain rfl := Option.some.inj h
    exact z_iret (pc := 115) hG rfl rfl hk dX10_count_115
  replace h := zif_f hc6 h
  by_cases hc7 : a1 = 7
  · replace h := zif_t hc7 h
    refine z_tabIn (pc := 1) (tgt := 116) hG dX10_count_1 (by rw [hc7]; decide) (by rw [hc7]; decide) (by rw [hc7]; rfl) rfl ?_
    refine z_aload_n (pc := 116) hG 0 rfl rfl dX10_count_116 ?_
    refine z_getr (pc := 117) hG zc_X10 inX10 DL_0 1 rfl (by decide) rfl w745 dX10_count_117 ?_
    replace h := zbind h
    obtain ⟨v3, hv3, h⟩ := h
    refine z_cvI (pc := 120) (A' := 0) (B' := 0) hG [] [] zc_X6 DL_3 (tX6_allForms hl0  g hv3) zy_X6_allForms ⟨w495, w496⟩ w494 dX10_count_120 rfl (Nat.le_of_ble_eq_true rfl) rfl rfl rfl (Nat.le_of_ble_eq_true rfl) rfl ?_
    obtain rfl := Option.some.inj h
    exact z_iret (pc := 123) hG rfl rfl hk dX10_count_123
  replace h := zif_f hc7 h
  by_cases hc8 : a1 = 8
  · replace h := zif_t hc8 h
    refine z_tabIn (pc := 1) (tgt := 124) hG dX10_count_1 (by rw [hc8]; decide) (by rw [hc8]; decide) (by rw [hc8]; rfl) rfl ?_
    refine z_aload_n (pc := 124) hG 0 rfl rfl dX10_count_124 ?_
    refine z_geti (pc := 125) hG zc_X10 inX10 DL_0 11 rfl (by decide) rfl w755 dX10_count_125 ?_
    obtain rfl := Option.some.inj h
    exact z_iret (pc := 128) hG rfl rfl hk dX10_count_128
  replace h := zif_f hc8 h
  by_cases hc9 : a1 = 9
  · replace h := zif_t hc9 h
    refine z_tabIn (pc := 1) (tgt := 129) hG dX10_count_1 (by rw [hc9]; decide) (by rw [hc9]; decide) (by rw [hc9]; rfl) rfl ?_
    refine z_aload_n (pc := 129) hG 0 rfl rfl dX10_count_129 ?_
    refine z_getr (pc := 130) hG zc_X10 inX10 DL_0 1 rfl (by decide) rfl w745 dX10_count_130 ?_
    refine z_aload_n (pc := 133) hG 0 rfl rfl dX10_count_133 ?_
    refine z_getr (pc := 134) hG zc_X10 inX10 DL_0 1 rfl (by decide) rfl w745 dX10_count_134 ?_
    replace h := zbind h
    obtain ⟨v4, hv4, h⟩ := h
    refine z_cvI (pc := 137) (A' := 0) (B' := 0) hG [] [.ref 3] zc_X6 DL_3 (tX6_allFields hl0  g hv4) zy_X6_allFields ⟨w316, w317⟩ w315 dX10_count_137 rfl (Nat.le_of_ble_eq_true rfl) rfl rfl rfl (Nat.le_of_ble_eq_true rfl) rfl ?_
    replace h := zbind h
    obtain ⟨v5, hv5, h⟩ := h
    refine z_cvI (pc := 140) (A' := 0) (B' := 0) hG [.int v4] [] zc_X6 DL_3 (tX6_weightOf hl0 v4 g hv5) zy_X6_weightOf ⟨w362, w363⟩ w498 dX10_count_140 rfl (Nat.le_of_ble_eq_true rfl) rfl rfl rfl (Nat.le_of_ble_eq_true rfl) rfl ?_
    obtain rfl := Option.some.inj h
    exact z_iret (pc := 143) hG rfl rfl hk dX10_count_143
  replace h := zif_f hc9 h
  by_cases hc10 : a1 = 10
  · replace h := zif_t hc10 h
    refine z_tabIn (pc := 1) (tgt := 144) hG dX10_count_1 (by rw [hc10]; decide) (by rw [hc10]; decide) (by rw [hc10]; rfl) rfl ?_
    refine z_aload_n (pc := 144) hG 0 rfl rfl dX10_count_144 ?_
    refine z_getr (pc := 145) hG zc_X10 inX10 DL_0 8 rfl (by decide) rfl w752 dX10_count_145 ?_
    replace h := zbind h
    obtain ⟨v6, hv6, h⟩ := h
    refine z_cvI (pc := 148) (A' := 0) (B' := 0) hG [] [] zc_X4 DL_37 (tX4_countMendable hl0  g hv6) zy_X4_countMendable ⟨w500, w501⟩ w499 dX10_count_148 rfl (Nat.le_of_ble_eq_true rfl) rfl rfl rfl (Nat.le_of_ble_eq_true rfl) rfl ?_
    obtain rfl := Option.some.inj h
    exact z_iret (pc := 151) hG rfl rfl hk dX10_count_151
  replace h := zif_f hc10 h
  refine z_tabOut (pc := 1) (tgt := 152) hG dX10_count_1 (ztab_out (n := 10) (fun k hk => by
    match k, hk with
    | 0, _ => exact hc0
    | 1, _ => exact hc1
    | 2, _ => exact hc2
    | 3, _ => exact hc3
    | 4, _ => exact hc4
    | 5, _ => exact hc5
    | 6, _ => exact hc6
    | 7, _ => exact hc7
    | 8, _ => exact hc8
    | 9, _ => exact hc9
    | 10, _ => exact hc10
    | k + 11, hk => omega)) rfl ?_
  refine z_iconst (pc := 152) hG kc_m1 dX10_count_152 ?_
  obtain rfl := Option.some.inj h
  exact z_iret (pc := 153) hG rfl rfl hk dX10_count_153
