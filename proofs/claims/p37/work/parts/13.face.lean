theorem dX10_feed_0 : decode cX10_feed 0 = .ok (.aload_n 0, 1) := by decide +kernel
theorem dX10_feed_1 : decode cX10_feed 1 = .ok (.getfield 10, 3) := by decide +kernel
theorem dX10_feed_4 : decode cX10_feed 4 = .ok (.bipush 20, 2) := by decide +kernel
theorem dX10_feed_6 : decode cX10_feed 6 = .ok (.invokevirtual 91, 3) := by decide +kernel
theorem dX10_feed_9 : decode cX10_feed 9 = .ok (.ifCond .ne 5, 3) := by decide +kernel
theorem dX10_feed_12 : decode cX10_feed 12 = .ok (.iconst (-1), 1) := by decide +kernel
theorem dX10_feed_13 : decode cX10_feed 13 = .ok (.ireturn, 1) := by decide +kernel
theorem dX10_feed_14 : decode cX10_feed 14 = .ok (.aload_n 0, 1) := by decide +kernel
theorem dX10_feed_15 : decode cX10_feed 15 = .ok (.getfield 10, 3) := by decide +kernel
theorem dX10_feed_18 : decode cX10_feed 18 = .ok (.iload_n 1, 1) := by decide +kernel
theorem dX10_feed_19 : decode cX10_feed 19 = .ok (.invokevirtual 95, 3) := by decide +kernel
theorem dX10_feed_22 : decode cX10_feed 22 = .ok (.aload_n 0, 1) := by decide +kernel
theorem dX10_feed_23 : decode cX10_feed 23 = .ok (.getfield 10, 3) := by decide +kernel
theorem dX10_feed_26 : decode cX10_feed 26 = .ok (.iload_n 2, 1) := by decide +kernel
theorem dX10_feed_27 : decode cX10_feed 27 = .ok (.invokevirtual 95, 3) := by decide +kernel
theorem dX10_feed_30 : decode cX10_feed 30 = .ok (.aload_n 0, 1) := by decide +kernel
theorem dX10_feed_31 : decode cX10_feed 31 = .ok (.getfield 10, 3) := by decide +kernel
theorem dX10_feed_34 : decode cX10_feed 34 = .ok (.iload_n 3, 1) := by decide +kernel
theorem dX10_feed_35 : decode cX10_feed 35 = .ok (.invokevirtual 95, 3) := by decide +kernel
theorem dX10_feed_38 : decode cX10_feed 38 = .ok (.aload_n 0, 1) := by decide +kernel
theorem dX10_feed_39 : decode cX10_feed 39 = .ok (.getfield 10, 3) := by decide +kernel
theorem dX10_feed_42 : decode cX10_feed 42 = .ok (.iload 4, 2) := by decide +kernel
theorem dX10_feed_44 : decode cX10_feed 44 = .ok (.invokevirtual 95, 3) := by decide +kernel
theorem dX10_feed_47 : decode cX10_feed 47 = .ok (.aload_n 0, 1) := by decide +kernel
theorem dX10_feed_48 : decode cX10_feed 48 = .ok (.getfield 10, 3) := by decide +kernel
theorem dX10_feed_51 : decode cX10_feed 51 = .ok (.iload 5, 2) := by decide +kernel
theorem dX10_feed_53 : decode cX10_feed 53 = .ok (.invokevirtual 95, 3) := by decide +kernel
theorem dX10_feed_56 : decode cX10_feed 56 = .ok (.aload_n 0, 1) := by decide +kernel
theorem dX10_feed_57 : decode cX10_feed 57 = .ok (.getfield 10, 3) := by decide +kernel
theorem dX10_feed_60 : decode cX10_feed 60 = .ok (.getfield 99, 3) := by decide +kernel
theorem dX10_feed_63 : decode cX10_feed 63 = .ok (.ireturn, 1) := by decide +kernel
theorem dX10_end_0 : decode cX10_end 0 = .ok (.iload_n 1, 1) := by decide +kernel
theorem dX10_end_1 : decode cX10_end 1 = .ok (.ifCond .lt 14, 3) := by decide +kernel
theorem dX10_end_4 : decode cX10_end 4 = .ok (.iload_n 1, 1) := by decide +kernel
theorem dX10_end_5 : decode cX10_end 5 = .ok (.aload_n 0, 1) := by decide +kernel
theorem dX10_end_6 : decode cX10_end 6 = .ok (.getfield 10, 3) := by decide +kernel
theorem dX10_end_9 : decode cX10_end 9 = .ok (.getfield 99, 3) := by decide +kernel
theorem dX10_end_12 : decode cX10_end 12 = .ok (.if_icmp .le 5, 3) := by decide +kernel
theorem dX10_end_15 : decode cX10_end 15 = .ok (.iconst 0, 1) := by decide +kernel
theorem dX10_end_16 : decode cX10_end 16 = .ok (.ireturn, 1) := by decide +kernel
theorem dX10_end_17 : decode cX10_end 17 = .ok (.aload_n 0, 1) := by decide +kernel
theorem dX10_end_18 : decode cX10_end 18 = .ok (.getfield 10, 3) := by decide +kernel
theorem dX10_end_21 : decode cX10_end 21 = .ok (.iload_n 1, 1) := by decide +kernel
theorem dX10_end_22 : decode cX10_end 22 = .ok (.putfield 99, 3) := by decide +kernel
theorem dX10_end_25 : decode cX10_end 25 = .ok (.iconst 1, 1) := by decide +kernel
theorem dX10_end_26 : decode cX10_end 26 = .ok (.ireturn, 1) := by decide +kernel
theorem dX10_read_0 : decode cX10_read 0 = .ok (.aload_n 0, 1) := by decide +kernel
theorem dX10_read_1 : decode cX10_read 1 = .ok (.getfield 31, 3) := by decide +kernel
theorem dX10_read_4 : decode cX10_read 4 = .ok (.invokevirtual 102, 3) := by decide +kernel
theorem dX10_read_7 : decode cX10_read 7 = .ok (.istore_n 1, 1) := by decide +kernel
theorem dX10_read_8 : decode cX10_read 8 = .ok (.aload_n 0, 1) := by decide +kernel
theorem dX10_read_9 : decode cX10_read 9 = .ok (.getfield 31, 3) := by decide +kernel
theorem dX10_read_12 : decode cX10_read 12 = .ok (.invokevirtual 106, 3) := by decide +kernel
theorem dX10_read_15 : decode cX10_read 15 = .ok (.istore_n 2, 1) := by decide +kernel
theorem dX10_read_16 : decode cX10_read 16 = .ok (.aload_n 0, 1) := by decide +kernel
theorem dX10_read_17 : decode cX10_read 17 = .ok (.getfield 10, 3) := by decide +kernel
theorem dX10_read_20 : decode cX10_read 20 = .ok (.iconst 0, 1) := by decide +kernel
theorem dX10_read_21 : decode cX10_read 21 = .ok (.putfield 99, 3) := by decide +kernel
theorem dX10_read_24 : decode cX10_read 24 = .ok (.iload_n 1, 1) := by decide +kernel
theorem dX10_read_25 : decode cX10_read 25 = .ok (.ifCond .ne 16, 3) := by decide +kernel
theorem dX10_read_28 : decode cX10_read 28 = .ok (.aload_n 0, 1) := by decide +kernel
theorem dX10_read_29 : decode cX10_read 29 = .ok (.iload_n 2, 1) := by decide +kernel
theorem dX10_read_30 : decode cX10_read 30 = .ok (.putfield 88, 3) := by decide +kernel
theorem dX10_read_33 : decode cX10_read 33 = .ok (.new 110, 3) := by decide +kernel
theorem dX10_read_36 : decode cX10_read 36 = .ok (.dup, 1) := by decide +kernel
theorem dX10_read_37 : decode cX10_read 37 = .ok (.invokespecial 112, 3) := by decide +kernel
theorem dX10_read_40 : decode cX10_read 40 = .ok (.athrow, 1) := by decide +kernel
theorem dX10_read_41 : decode cX10_read 41 = .ok (.aload_n 0, 1) := by decide +kernel
theorem dX10_read_42 : decode cX10_read 42 = .ok (.iconst (-1), 1) := by decide +kernel
theorem dX10_read_43 : decode cX10_read 43 = .ok (.putfield 88, 3) := by decide +kernel
theorem dX10_read_46 : decode cX10_read 46 = .ok (.aload_n 0, 1) := by decide +kernel
theorem dX10_read_47 : decode cX10_read 47 = .ok (.getfield 19, 3) := by decide +kernel
theorem dX10_read_50 : decode cX10_read 50 = .ok (.aload_n 0, 1) := by decide +kernel
theorem dX10_read_51 : decode cX10_read 51 = .ok (.getfield 23, 3) := by decide +kernel
theorem dX10_read_54 : decode cX10_read 54 = .ok (.invokevirtual 113, 3) := by decide +kernel
theorem dX10_read_57 : decode cX10_read 57 = .ok (.aload_n 0, 1) := by decide +kernel
theorem dX10_read_58 : decode cX10_read 58 = .ok (.getfield 40, 3) := by decide +kernel
theorem dX10_read_61 : decode cX10_read 61 = .ok (.invokevirtual 116, 3) := by decide +kernel
theorem dX10_read_64 : decode cX10_read 64 = .ok (.aload_n 0, 1) := by decide +kernel
theorem dX10_read_65 : decode cX10_read 65 = .ok (.getfield 49, 3) := by decide +kernel
theorem dX10_read_68 : decode cX10_read 68 = .ok (.invokevirtual 119, 3) := by decide +kernel
theorem dX10_read_71 : decode cX10_read 71 = .ok (.aload_n 0, 1) := by decide +kernel
theorem dX10_read_72 : decode cX10_read 72 = .ok (.getfield 56, 3) := by decide +kernel
theorem dX10_read_75 : decode cX10_read 75 = .ok (.aload_n 0, 1) := by decide +kernel
theorem dX10_read_76 : decode cX10_read 76 = .ok (.getfield 19, 3) := by decide +kernel
theorem dX10_read_79 : decode cX10_read 79 = .ok (.invokevirtual 122, 3) := by decide +kernel
theorem dX10_read_82 : decode cX10_read 82 = .ok (.aload_n 0, 1) := by decide +kernel
theorem dX10_read_83 : decode cX10_read 83 = .ok (.getfield 56, 3) := by decide +kernel
theorem dX10_read_86 : decode cX10_read 86 = .ok (.getfield 125, 3) := by decide +kernel
theorem dX10_read_89 : decode cX10_read 89 = .ok (.ireturn, 1) := by decide +kernel
theorem dX10_fault_0 : decode cX10_fault 0 = .ok (.aload_n 0, 1) := by decide +kernel
theorem dX10_fault_1 : decode cX10_fault 1 = .ok (.getfield 88, 3) := by decide +kernel
theorem dX10_fault_4 : decode cX10_fault 4 = .ok (.ireturn, 1) := by decide +kernel
theorem dX10_needField_0 : decode cX10_needField 0 = .ok (.iload_n 1, 1) := by decide +kernel
theorem dX10_needField_1 : decode cX10_needField 1 = .ok (.ifCond .lt 14, 3) := by decide +kernel
theorem dX10_needField_4 : decode cX10_needField 4 = .ok (.iload_n 1, 1) := by decide +kernel
theorem dX10_needField_5 : decode cX10_needField 5 = .ok (.aload_n 0, 1) := by decide +kernel
theorem dX10_needField_6 : decode cX10_needField 6 = .ok (.getfield 19, 3) := by decide +kernel
theorem dX10_needField_9 : decode cX10_needField 9 = .ok (.getfield 183, 3) := by decide +kernel
theorem dX10_needField_12 : decode cX10_needField 12 = .ok (.if_icmp .lt 11, 3) := by decide +kernel
theorem dX10_needField_15 : decode cX10_needField 15 = .ok (.new 376, 3) := by decide +kernel
theorem dX10_needField_18 : decode cX10_needField 18 = .ok (.dup, 1) := by decide +kernel
theorem dX10_needField_19 : decode cX10_needField 19 = .ok (.invokespecial 378, 3) := by decide +kernel
theorem dX10_needField_22 : decode cX10_needField 22 = .ok (.athrow, 1) := by decide +kernel
theorem dX10_needField_23 : decode cX10_needField 23 = .ok (.return_, 1) := by decide +kernel
theorem dX10_field_0 : decode cX10_field 0 = .ok (.aload_n 0, 1) := by decide +kernel
theorem dX10_field_1 : decode cX10_field 1 = .ok (.iload_n 1, 1) := by decide +kernel
theorem dX10_field_2 : decode cX10_field 2 = .ok (.invokevirtual 128, 3) := by decide +kernel
theorem dX10_field_5 : decode cX10_field 5 = .ok (.iload_n 2, 1) := by decide +kernel
theorem dX10_field_6 : decode cX10_field 6 = .ok (.tableswitch 77 0 3 #[30, 40, 50, 60], 30) := by decide +kernel
theorem dX10_field_36 : decode cX10_field 36 = .ok (.aload_n 0, 1) := by decide +kernel
theorem dX10_field_37 : decode cX10_field 37 = .ok (.getfield 19, 3) := by decide +kernel
theorem dX10_field_40 : decode cX10_field 40 = .ok (.getfield 131, 3) := by decide +kernel
theorem dX10_field_43 : decode cX10_field 43 = .ok (.iload_n 1, 1) := by decide +kernel
theorem dX10_field_44 : decode cX10_field 44 = .ok (.iaload, 1) := by decide +kernel
theorem dX10_field_45 : decode cX10_field 45 = .ok (.ireturn, 1) := by decide +kernel
theorem dX10_field_46 : decode cX10_field 46 = .ok (.aload_n 0, 1) := by decide +kernel
theorem dX10_field_47 : decode cX10_field 47 = .ok (.getfield 19, 3) := by decide +kernel
theorem dX10_field_50 : decode cX10_field 50 = .ok (.getfield 134, 3) := by decide +kernel
theorem dX10_field_53 : decode cX10_field 53 = .ok (.iload_n 1, 1) := by decide +kernel
theorem dX10_field_54 : decode cX10_field 54 = .ok (.iaload, 1) := by decide +kernel
theorem dX10_field_55 : decode cX10_field 55 = .ok (.ireturn, 1) := by decide +kernel
theorem dX10_field_56 : decode cX10_field 56 = .ok (.aload_n 0, 1) := by decide +kernel
theorem dX10_field_57 : decode cX10_field 57 = .ok (.getfield 19, 3) := by decide +kernel
theorem dX10_field_60 : decode cX10_field 60 = .ok (.getfield 137, 3) := by decide +kernel
theorem dX10_field_63 : decode cX10_field 63 = .ok (.iload_n 1, 1) := by decide +kernel
theorem dX10_field_64 : decode cX10_field 64 = .ok (.iaload, 1) := by decide +kernel
theorem dX10_field_65 : decode cX10_field 65 = .ok (.ireturn, 1) := by decide +kernel
theorem dX10_field_66 : decode cX10_field 66 = .ok (.aload_n 0, 1) := by decide +kernel
theorem dX10_field_67 : decode cX10_field 67 = .ok (.getfield 19, 3) := by decide +kernel
theorem dX10_field_70 : decode cX10_field 70 = .ok (.getfield 140, 3) := by decide +kernel
theorem dX10_field_73 : decode cX10_field 73 = .ok (.iload_n 1, 1) := by decide +kernel
theorem dX10_field_74 : decode cX10_field 74 = .ok (.if_icmp .ne 7, 3) := by decide +kernel
theorem dX10_field_77 : decode cX10_field 77 = .ok (.iconst 1, 1) := by decide +kernel
theorem dX10_field_78 : decode cX10_field 78 = .ok (.goto 4, 3) := by decide +kernel
theorem dX10_field_81 : decode cX10_field 81 = .ok (.iconst 0, 1) := by decide +kernel
theorem dX10_field_82 : decode cX10_field 82 = .ok (.ireturn, 1) := by decide +kernel
theorem dX10_field_83 : decode cX10_field 83 = .ok (.new 143, 3) := by decide +kernel
theorem dX10_field_86 : decode cX10_field 86 = .ok (.dup, 1) := by decide +kernel
theorem dX10_field_87 : decode cX10_field 87 = .ok (.invokespecial 145, 3) := by decide +kernel
theorem dX10_field_90 : decode cX10_field 90 = .ok (.athrow, 1) := by decide +kernel
theorem dX10_name_0 : decode cX10_name 0 = .ok (.aload_n 0, 1) := by decide +kernel
theorem dX10_name_1 : decode cX10_name 1 = .ok (.iload_n 1, 1) := by decide +kernel
theorem dX10_name_2 : decode cX10_name 2 = .ok (.invokevirtual 128, 3) := by decide +kernel
theorem dX10_name_5 : decode cX10_name 5 = .ok (.aload_n 0, 1) := by decide +kernel
theorem dX10_name_6 : decode cX10_name 6 = .ok (.getfield 19, 3) := by decide +kernel
theorem dX10_name_9 : decode cX10_name 9 = .ok (.iload_n 1, 1) := by decide +kernel
theorem dX10_name_10 : decode cX10_name 10 = .ok (.iload_n 2, 1) := by decide +kernel
theorem dX10_name_11 : decode cX10_name 11 = .ok (.invokevirtual 146, 3) := by decide +kernel
theorem dX10_name_14 : decode cX10_name 14 = .ok (.ireturn, 1) := by decide +kernel
theorem dX10_needEdit_0 : decode cX10_needEdit 0 = .ok (.iload_n 1, 1) := by decide +kernel
theorem dX10_needEdit_1 : decode cX10_needEdit 1 = .ok (.ifCond .lt 14, 3) := by decide +kernel
theorem dX10_needEdit_4 : decode cX10_needEdit 4 = .ok (.iload_n 1, 1) := by decide +kernel
theorem dX10_needEdit_5 : decode cX10_needEdit 5 = .ok (.aload_n 0, 1) := by decide +kernel
theorem dX10_needEdit_6 : decode cX10_needEdit 6 = .ok (.getfield 19, 3) := by decide +kernel
theorem dX10_needEdit_9 : decode cX10_needEdit 9 = .ok (.getfield 362, 3) := by decide +kernel
theorem dX10_needEdit_12 : decode cX10_needEdit 12 = .ok (.if_icmp .lt 11, 3) := by decide +kernel
theorem dX10_needEdit_15 : decode cX10_needEdit 15 = .ok (.new 376, 3) := by decide +kernel
theorem dX10_needEdit_18 : decode cX10_needEdit 18 = .ok (.dup, 1) := by decide +kernel
theorem dX10_needEdit_19 : decode cX10_needEdit 19 = .ok (.invokespecial 378, 3) := by decide +kernel
theorem dX10_needEdit_22 : decode cX10_needEdit 22 = .ok (.athrow, 1) := by decide +kernel
theorem dX10_needEdit_23 : decode cX10_needEdit 23 = .ok (.return_, 1) := by decide +kernel
theorem dX10_edit_0 : decode cX10_edit 0 = .ok (.aload_n 0, 1) := by decide +kernel
theorem dX10_edit_1 : decode cX10_edit 1 = .ok (.iload_n 1, 1) := by decide +kernel
theorem dX10_edit_2 : decode cX10_edit 2 = .ok (.invokevirtual 150, 3) := by decide +kernel
theorem dX10_edit_5 : decode cX10_edit 5 = .ok (.aload_n 0, 1) := by decide +kernel
theorem dX10_edit_6 : decode cX10_edit 6 = .ok (.iload_n 2, 1) := by decide +kernel
theorem dX10_edit_7 : decode cX10_edit 7 = .ok (.invokevirtual 128, 3) := by decide +kernel
theorem dX10_edit_10 : decode cX10_edit 10 = .ok (.aload_n 0, 1) := by decide +kernel
theorem dX10_edit_11 : decode cX10_edit 11 = .ok (.getfield 19, 3) := by decide +kernel
theorem dX10_edit_14 : decode cX10_edit 14 = .ok (.iload_n 1, 1) := by decide +kernel
theorem dX10_edit_15 : decode cX10_edit 15 = .ok (.iload_n 2, 1) := by decide +kernel
theorem dX10_edit_16 : decode cX10_edit 16 = .ok (.invokevirtual 153, 3) := by decide +kernel
theorem dX10_edit_19 : decode cX10_edit 19 = .ok (.ireturn, 1) := by decide +kernel
theorem dX10_idle_0 : decode cX10_idle 0 = .ok (.aload_n 0, 1) := by decide +kernel
theorem dX10_idle_1 : decode cX10_idle 1 = .ok (.iload_n 1, 1) := by decide +kernel
theorem dX10_idle_2 : decode cX10_idle 2 = .ok (.invokevirtual 150, 3) := by decide +kernel
theorem dX10_idle_5 : decode cX10_idle 5 = .ok (.aload_n 0, 1) := by decide +kernel
theorem dX10_idle_6 : decode cX10_idle 6 = .ok (.getfield 40, 3) := by decide +kernel
theorem dX10_idle_9 : decode cX10_idle 9 = .ok (.iload_n 1, 1) := by decide +kernel
theorem dX10_idle_10 : decode cX10_idle 10 = .ok (.invokevirtual 169, 3) := by decide +kernel
theorem dX10_idle_13 : decode cX10_idle 13 = .ok (.ireturn, 1) := by decide +kernel
theorem dX10_passing_0 : decode cX10_passing 0 = .ok (.aload_n 0, 1) := by decide +kernel
theorem dX10_passing_1 : decode cX10_passing 1 = .ok (.getfield 40, 3) := by decide +kernel
theorem dX10_passing_4 : decode cX10_passing 4 = .ok (.getfield 180, 3) := by decide +kernel
theorem dX10_passing_7 : decode cX10_passing 7 = .ok (.ireturn, 1) := by decide +kernel
theorem dX10_tried_0 : decode cX10_tried 0 = .ok (.iload_n 1, 1) := by decide +kernel
theorem dX10_tried_1 : decode cX10_tried 1 = .ok (.aload_n 0, 1) := by decide +kernel
theorem dX10_tried_2 : decode cX10_tried 2 = .ok (.getfield 19, 3) := by decide +kernel
theorem dX10_tried_5 : decode cX10_tried 5 = .ok (.getfield 183, 3) := by decide +kernel
theorem dX10_tried_8 : decode cX10_tried 8 = .ok (.invokestatic 186, 3) := by decide +kernel
theorem dX10_tried_11 : decode cX10_tried 11 = .ok (.istore_n 2, 1) := by decide +kernel
theorem dX10_tried_12 : decode cX10_tried 12 = .ok (.iload_n 2, 1) := by decide +kernel
theorem dX10_tried_13 : decode cX10_tried 13 = .ok (.iconst (-1), 1) := by decide +kernel
theorem dX10_tried_14 : decode cX10_tried 14 = .ok (.if_icmp .eq 14, 3) := by decide +kernel
theorem dX10_tried_17 : decode cX10_tried 17 = .ok (.aload_n 0, 1) := by decide +kernel
theorem dX10_tried_18 : decode cX10_tried 18 = .ok (.getfield 19, 3) := by decide +kernel
theorem dX10_tried_21 : decode cX10_tried 21 = .ok (.iload_n 2, 1) := by decide +kernel
theorem dX10_tried_22 : decode cX10_tried 22 = .ok (.invokevirtual 191, 3) := by decide +kernel
theorem dX10_tried_25 : decode cX10_tried 25 = .ok (.ifCond .ne 11, 3) := by decide +kernel
theorem dX10_tried_28 : decode cX10_tried 28 = .ok (.new 110, 3) := by decide +kernel
theorem dX10_tried_31 : decode cX10_tried 31 = .ok (.dup, 1) := by decide +kernel
theorem dX10_tried_32 : decode cX10_tried 32 = .ok (.invokespecial 112, 3) := by decide +kernel
theorem dX10_tried_35 : decode cX10_tried 35 = .ok (.athrow, 1) := by decide +kernel
theorem dX10_tried_36 : decode cX10_tried 36 = .ok (.aload_n 0, 1) := by decide +kernel
theorem dX10_tried_37 : decode cX10_tried 37 = .ok (.getfield 40, 3) := by decide +kernel
theorem dX10_tried_40 : decode cX10_tried 40 = .ok (.iload_n 2, 1) := by decide +kernel
theorem dX10_tried_41 : decode cX10_tried 41 = .ok (.invokevirtual 194, 3) := by decide +kernel
theorem dX10_tried_44 : decode cX10_tried 44 = .ok (.ireturn, 1) := by decide +kernel
theorem dX10_needRow_0 : decode cX10_needRow 0 = .ok (.iload_n 1, 1) := by decide +kernel
theorem dX10_needRow_1 : decode cX10_needRow 1 = .ok (.ifCond .lt 14, 3) := by decide +kernel
theorem dX10_needRow_4 : decode cX10_needRow 4 = .ok (.iload_n 1, 1) := by decide +kernel
theorem dX10_needRow_5 : decode cX10_needRow 5 = .ok (.aload_n 0, 1) := by decide +kernel
theorem dX10_needRow_6 : decode cX10_needRow 6 = .ok (.getfield 56, 3) := by decide +kernel
theorem dX10_needRow_9 : decode cX10_needRow 9 = .ok (.getfield 125, 3) := by decide +kernel
theorem dX10_needRow_12 : decode cX10_needRow 12 = .ok (.if_icmp .lt 11, 3) := by decide +kernel
theorem dX10_needRow_15 : decode cX10_needRow 15 = .ok (.new 376, 3) := by decide +kernel
theorem dX10_needRow_18 : decode cX10_needRow 18 = .ok (.dup, 1) := by decide +kernel
theorem dX10_needRow_19 : decode cX10_needRow 19 = .ok (.invokespecial 378, 3) := by decide +kernel
theorem dX10_needRow_22 : decode cX10_needRow 22 = .ok (.athrow, 1) := by decide +kernel
theorem dX10_needRow_23 : decode cX10_needRow 23 = .ok (.return_, 1) := by decide +kernel
theorem dX10_answer_0 : decode cX10_answer 0 = .ok (.aload_n 0, 1) := by decide +kernel
theorem dX10_answer_1 : decode cX10_answer 1 = .ok (.iload_n 1, 1) := by decide +kernel
theorem dX10_answer_2 : decode cX10_answer 2 = .ok (.invokevirtual 197, 3) := by decide +kernel
theorem dX10_answer_5 : decode cX10_answer 5 = .ok (.aload_n 0, 1) := by decide +kernel
theorem dX10_answer_6 : decode cX10_answer 6 = .ok (.iload_n 2, 1) := by decide +kernel
theorem dX10_answer_7 : decode cX10_answer 7 = .ok (.invokevirtual 128, 3) := by decide +kernel
theorem dX10_answer_10 : decode cX10_answer 10 = .ok (.aload_n 0, 1) := by decide +kernel
theorem dX10_answer_11 : decode cX10_answer 11 = .ok (.getfield 56, 3) := by decide +kernel
theorem dX10_answer_14 : decode cX10_answer 14 = .ok (.iload_n 1, 1) := by decide +kernel
theorem dX10_answer_15 : decode cX10_answer 15 = .ok (.invokevirtual 200, 3) := by decide +kernel
theorem dX10_answer_18 : decode cX10_answer 18 = .ok (.iload_n 2, 1) := by decide +kernel
theorem dX10_answer_19 : decode cX10_answer 19 = .ok (.invokestatic 203, 3) := by decide +kernel
theorem dX10_answer_22 : decode cX10_answer 22 = .ok (.ireturn, 1) := by decide +kernel
theorem dX10_needValue_0 : decode cX10_needValue 0 = .ok (.iload_n 2, 1) := by decide +kernel
theorem dX10_needValue_1 : decode cX10_needValue 1 = .ok (.ifCond .lt 16, 3) := by decide +kernel
theorem dX10_needValue_4 : decode cX10_needValue 4 = .ok (.iload_n 2, 1) := by decide +kernel
theorem dX10_needValue_5 : decode cX10_needValue 5 = .ok (.aload_n 0, 1) := by decide +kernel
theorem dX10_needValue_6 : decode cX10_needValue 6 = .ok (.getfield 19, 3) := by decide +kernel
theorem dX10_needValue_9 : decode cX10_needValue 9 = .ok (.getfield 131, 3) := by decide +kernel
theorem dX10_needValue_12 : decode cX10_needValue 12 = .ok (.iload_n 1, 1) := by decide +kernel
theorem dX10_needValue_13 : decode cX10_needValue 13 = .ok (.iaload, 1) := by decide +kernel
theorem dX10_needValue_14 : decode cX10_needValue 14 = .ok (.if_icmp .lt 11, 3) := by decide +kernel
theorem dX10_needValue_17 : decode cX10_needValue 17 = .ok (.new 110, 3) := by decide +kernel
theorem dX10_needValue_20 : decode cX10_needValue 20 = .ok (.dup, 1) := by decide +kernel
theorem dX10_needValue_21 : decode cX10_needValue 21 = .ok (.invokespecial 112, 3) := by decide +kernel
theorem dX10_needValue_24 : decode cX10_needValue 24 = .ok (.athrow, 1) := by decide +kernel
theorem dX10_needValue_25 : decode cX10_needValue 25 = .ok (.return_, 1) := by decide +kernel
theorem dX10_tell_0 : decode cX10_tell 0 = .ok (.aload_n 0, 1) := by decide +kernel
theorem dX10_tell_1 : decode cX10_tell 1 = .ok (.iload_n 1, 1) := by decide +kernel
theorem dX10_tell_2 : decode cX10_tell 2 = .ok (.invokevirtual 197, 3) := by decide +kernel
theorem dX10_tell_5 : decode cX10_tell 5 = .ok (.aload_n 0, 1) := by decide +kernel
theorem dX10_tell_6 : decode cX10_tell 6 = .ok (.iload_n 2, 1) := by decide +kernel
theorem dX10_tell_7 : decode cX10_tell 7 = .ok (.invokevirtual 128, 3) := by decide +kernel
theorem dX10_tell_10 : decode cX10_tell 10 = .ok (.iload_n 3, 1) := by decide +kernel
theorem dX10_tell_11 : decode cX10_tell 11 = .ok (.iconst (-1), 1) := by decide +kernel
theorem dX10_tell_12 : decode cX10_tell 12 = .ok (.if_icmp .eq 9, 3) := by decide +kernel
theorem dX10_tell_15 : decode cX10_tell 15 = .ok (.aload_n 0, 1) := by decide +kernel
theorem dX10_tell_16 : decode cX10_tell 16 = .ok (.iload_n 2, 1) := by decide +kernel
theorem dX10_tell_17 : decode cX10_tell 17 = .ok (.iload_n 3, 1) := by decide +kernel
theorem dX10_tell_18 : decode cX10_tell 18 = .ok (.invokevirtual 206, 3) := by decide +kernel
theorem dX10_tell_21 : decode cX10_tell 21 = .ok (.aload_n 0, 1) := by decide +kernel
theorem dX10_tell_22 : decode cX10_tell 22 = .ok (.getfield 56, 3) := by decide +kernel
theorem dX10_tell_25 : decode cX10_tell 25 = .ok (.iload_n 1, 1) := by decide +kernel
theorem dX10_tell_26 : decode cX10_tell 26 = .ok (.invokevirtual 200, 3) := by decide +kernel
theorem dX10_tell_29 : decode cX10_tell 29 = .ok (.istore 4, 2) := by decide +kernel
theorem dX10_tell_31 : decode cX10_tell 31 = .ok (.aload_n 0, 1) := by decide +kernel
theorem dX10_tell_32 : decode cX10_tell 32 = .ok (.getfield 56, 3) := by decide +kernel
theorem dX10_tell_35 : decode cX10_tell 35 = .ok (.invokevirtual 210, 3) := by decide +kernel
theorem dX10_tell_38 : decode cX10_tell 38 = .ok (.aload_n 0, 1) := by decide +kernel
theorem dX10_tell_39 : decode cX10_tell 39 = .ok (.getfield 56, 3) := by decide +kernel
theorem dX10_tell_42 : decode cX10_tell 42 = .ok (.getfield 213, 3) := by decide +kernel
theorem dX10_tell_45 : decode cX10_tell 45 = .ok (.iload_n 1, 1) := by decide +kernel
theorem dX10_tell_46 : decode cX10_tell 46 = .ok (.iload 4, 2) := by decide +kernel
theorem dX10_tell_48 : decode cX10_tell 48 = .ok (.iload_n 2, 1) := by decide +kernel
theorem dX10_tell_49 : decode cX10_tell 49 = .ok (.iload_n 3, 1) := by decide +kernel
theorem dX10_tell_50 : decode cX10_tell 50 = .ok (.invokestatic 216, 3) := by decide +kernel
theorem dX10_tell_53 : decode cX10_tell 53 = .ok (.iastore, 1) := by decide +kernel
theorem dX10_tell_54 : decode cX10_tell 54 = .ok (.iload 4, 2) := by decide +kernel
theorem dX10_tell_56 : decode cX10_tell 56 = .ok (.iload_n 2, 1) := by decide +kernel
theorem dX10_tell_57 : decode cX10_tell 57 = .ok (.invokestatic 203, 3) := by decide +kernel
theorem dX10_tell_60 : decode cX10_tell 60 = .ok (.ireturn, 1) := by decide +kernel
theorem dX10_copy_0 : decode cX10_copy 0 = .ok (.aload_n 0, 1) := by decide +kernel
theorem dX10_copy_1 : decode cX10_copy 1 = .ok (.iload_n 1, 1) := by decide +kernel
theorem dX10_copy_2 : decode cX10_copy 2 = .ok (.invokevirtual 197, 3) := by decide +kernel
theorem dX10_copy_5 : decode cX10_copy 5 = .ok (.aload_n 0, 1) := by decide +kernel
theorem dX10_copy_6 : decode cX10_copy 6 = .ok (.getfield 56, 3) := by decide +kernel
theorem dX10_copy_9 : decode cX10_copy 9 = .ok (.getfield 125, 3) := by decide +kernel
theorem dX10_copy_12 : decode cX10_copy 12 = .ok (.bipush 40, 2) := by decide +kernel
theorem dX10_copy_14 : decode cX10_copy 14 = .ok (.if_icmp .lt 11, 3) := by decide +kernel
theorem dX10_copy_17 : decode cX10_copy 17 = .ok (.new 220, 3) := by decide +kernel
theorem dX10_copy_20 : decode cX10_copy 20 = .ok (.dup, 1) := by decide +kernel
theorem dX10_copy_21 : decode cX10_copy 21 = .ok (.invokespecial 222, 3) := by decide +kernel
theorem dX10_copy_24 : decode cX10_copy 24 = .ok (.athrow, 1) := by decide +kernel
theorem dX10_copy_25 : decode cX10_copy 25 = .ok (.aload_n 0, 1) := by decide +kernel
theorem dX10_copy_26 : decode cX10_copy 26 = .ok (.getfield 56, 3) := by decide +kernel
theorem dX10_copy_29 : decode cX10_copy 29 = .ok (.invokevirtual 210, 3) := by decide +kernel
theorem dX10_copy_32 : decode cX10_copy 32 = .ok (.aload_n 0, 1) := by decide +kernel
theorem dX10_copy_33 : decode cX10_copy 33 = .ok (.getfield 56, 3) := by decide +kernel
theorem dX10_copy_36 : decode cX10_copy 36 = .ok (.getfield 213, 3) := by decide +kernel
theorem dX10_copy_39 : decode cX10_copy 39 = .ok (.aload_n 0, 1) := by decide +kernel
theorem dX10_copy_40 : decode cX10_copy 40 = .ok (.getfield 56, 3) := by decide +kernel
theorem dX10_copy_43 : decode cX10_copy 43 = .ok (.getfield 125, 3) := by decide +kernel
theorem dX10_copy_46 : decode cX10_copy 46 = .ok (.aload_n 0, 1) := by decide +kernel
theorem dX10_copy_47 : decode cX10_copy 47 = .ok (.getfield 56, 3) := by decide +kernel
theorem dX10_copy_50 : decode cX10_copy 50 = .ok (.iload_n 1, 1) := by decide +kernel
theorem dX10_copy_51 : decode cX10_copy 51 = .ok (.invokevirtual 200, 3) := by decide +kernel
theorem dX10_copy_54 : decode cX10_copy 54 = .ok (.iastore, 1) := by decide +kernel
theorem dX10_copy_55 : decode cX10_copy 55 = .ok (.aload_n 0, 1) := by decide +kernel
theorem dX10_copy_56 : decode cX10_copy 56 = .ok (.getfield 56, 3) := by decide +kernel
theorem dX10_copy_59 : decode cX10_copy 59 = .ok (.dup, 1) := by decide +kernel
theorem dX10_copy_60 : decode cX10_copy 60 = .ok (.getfield 125, 3) := by decide +kernel
theorem dX10_copy_63 : decode cX10_copy 63 = .ok (.iconst 1, 1) := by decide +kernel
theorem dX10_copy_64 : decode cX10_copy 64 = .ok (.iadd, 1) := by decide +kernel
theorem dX10_copy_65 : decode cX10_copy 65 = .ok (.putfield 125, 3) := by decide +kernel
theorem dX10_copy_68 : decode cX10_copy 68 = .ok (.aload_n 0, 1) := by decide +kernel
theorem dX10_copy_69 : decode cX10_copy 69 = .ok (.getfield 56, 3) := by decide +kernel
theorem dX10_copy_72 : decode cX10_copy 72 = .ok (.getfield 125, 3) := by decide +kernel
theorem dX10_copy_75 : decode cX10_copy 75 = .ok (.iconst 1, 1) := by decide +kernel
theorem dX10_copy_76 : decode cX10_copy 76 = .ok (.isub, 1) := by decide +kernel
theorem dX10_copy_77 : decode cX10_copy 77 = .ok (.ireturn, 1) := by decide +kernel
theorem dX10_drop_0 : decode cX10_drop 0 = .ok (.aload_n 0, 1) := by decide +kernel
theorem dX10_drop_1 : decode cX10_drop 1 = .ok (.getfield 56, 3) := by decide +kernel
theorem dX10_drop_4 : decode cX10_drop 4 = .ok (.getfield 125, 3) := by decide +kernel
theorem dX10_drop_7 : decode cX10_drop 7 = .ok (.ifCond .ne 11, 3) := by decide +kernel
theorem dX10_drop_10 : decode cX10_drop 10 = .ok (.new 220, 3) := by decide +kernel
theorem dX10_drop_13 : decode cX10_drop 13 = .ok (.dup, 1) := by decide +kernel
theorem dX10_drop_14 : decode cX10_drop 14 = .ok (.invokespecial 222, 3) := by decide +kernel
theorem dX10_drop_17 : decode cX10_drop 17 = .ok (.athrow, 1) := by decide +kernel
theorem dX10_drop_18 : decode cX10_drop 18 = .ok (.aload_n 0, 1) := by decide +kernel
theorem dX10_drop_19 : decode cX10_drop 19 = .ok (.getfield 56, 3) := by decide +kernel
theorem dX10_drop_22 : decode cX10_drop 22 = .ok (.invokevirtual 210, 3) := by decide +kernel
theorem dX10_drop_25 : decode cX10_drop 25 = .ok (.aload_n 0, 1) := by decide +kernel
theorem dX10_drop_26 : decode cX10_drop 26 = .ok (.getfield 56, 3) := by decide +kernel
theorem dX10_drop_29 : decode cX10_drop 29 = .ok (.dup, 1) := by decide +kernel
theorem dX10_drop_30 : decode cX10_drop 30 = .ok (.getfield 125, 3) := by decide +kernel
theorem dX10_drop_33 : decode cX10_drop 33 = .ok (.iconst 1, 1) := by decide +kernel
theorem dX10_drop_34 : decode cX10_drop 34 = .ok (.isub, 1) := by decide +kernel
theorem dX10_drop_35 : decode cX10_drop 35 = .ok (.putfield 125, 3) := by decide +kernel
theorem dX10_drop_38 : decode cX10_drop 38 = .ok (.aload_n 0, 1) := by decide +kernel
theorem dX10_drop_39 : decode cX10_drop 39 = .ok (.getfield 56, 3) := by decide +kernel
theorem dX10_drop_42 : decode cX10_drop 42 = .ok (.getfield 125, 3) := by decide +kernel
theorem dX10_drop_45 : decode cX10_drop 45 = .ok (.ireturn, 1) := by decide +kernel
theorem dX10_fails_0 : decode cX10_fails 0 = .ok (.aload_n 0, 1) := by decide +kernel
theorem dX10_fails_1 : decode cX10_fails 1 = .ok (.iload_n 1, 1) := by decide +kernel
theorem dX10_fails_2 : decode cX10_fails 2 = .ok (.invokevirtual 197, 3) := by decide +kernel
theorem dX10_fails_5 : decode cX10_fails 5 = .ok (.aload_n 0, 1) := by decide +kernel
theorem dX10_fails_6 : decode cX10_fails 6 = .ok (.getfield 40, 3) := by decide +kernel
theorem dX10_fails_9 : decode cX10_fails 9 = .ok (.aload_n 0, 1) := by decide +kernel
theorem dX10_fails_10 : decode cX10_fails 10 = .ok (.getfield 56, 3) := by decide +kernel
theorem dX10_fails_13 : decode cX10_fails 13 = .ok (.iload_n 1, 1) := by decide +kernel
theorem dX10_fails_14 : decode cX10_fails 14 = .ok (.invokevirtual 200, 3) := by decide +kernel
theorem dX10_fails_17 : decode cX10_fails 17 = .ok (.invokevirtual 194, 3) := by decide +kernel
theorem dX10_fails_20 : decode cX10_fails 20 = .ok (.ireturn, 1) := by decide +kernel
theorem dX10_needAnswers_0 : decode cX10_needAnswers 0 = .ok (.aload_n 0, 1) := by decide +kernel
theorem dX10_needAnswers_1 : decode cX10_needAnswers 1 = .ok (.getfield 56, 3) := by decide +kernel
theorem dX10_needAnswers_4 : decode cX10_needAnswers 4 = .ok (.iload_n 1, 1) := by decide +kernel
theorem dX10_needAnswers_5 : decode cX10_needAnswers 5 = .ok (.invokevirtual 200, 3) := by decide +kernel
theorem dX10_needAnswers_8 : decode cX10_needAnswers 8 = .ok (.aload_n 0, 1) := by decide +kernel
theorem dX10_needAnswers_9 : decode cX10_needAnswers 9 = .ok (.getfield 19, 3) := by decide +kernel
theorem dX10_needAnswers_12 : decode cX10_needAnswers 12 = .ok (.getfield 183, 3) := by decide +kernel
theorem dX10_needAnswers_15 : decode cX10_needAnswers 15 = .ok (.invokestatic 319, 3) := by decide +kernel
theorem dX10_needAnswers_18 : decode cX10_needAnswers 18 = .ok (.iload_n 2, 1) := by decide +kernel
theorem dX10_needAnswers_19 : decode cX10_needAnswers 19 = .ok (.iconst (-1), 1) := by decide +kernel
theorem dX10_needAnswers_20 : decode cX10_needAnswers 20 = .ok (.ixor, 1) := by decide +kernel
theorem dX10_needAnswers_21 : decode cX10_needAnswers 21 = .ok (.iand, 1) := by decide +kernel
theorem dX10_needAnswers_22 : decode cX10_needAnswers 22 = .ok (.ifCond .eq 11, 3) := by decide +kernel
theorem dX10_needAnswers_25 : decode cX10_needAnswers 25 = .ok (.new 220, 3) := by decide +kernel
theorem dX10_needAnswers_28 : decode cX10_needAnswers 28 = .ok (.dup, 1) := by decide +kernel
theorem dX10_needAnswers_29 : decode cX10_needAnswers 29 = .ok (.invokespecial 222, 3) := by decide +kernel
theorem dX10_needAnswers_32 : decode cX10_needAnswers 32 = .ok (.athrow, 1) := by decide +kernel
theorem dX10_needAnswers_33 : decode cX10_needAnswers 33 = .ok (.return_, 1) := by decide +kernel
theorem dX10_may_0 : decode cX10_may 0 = .ok (.aload_n 0, 1) := by decide +kernel
theorem dX10_may_1 : decode cX10_may 1 = .ok (.iload_n 1, 1) := by decide +kernel
theorem dX10_may_2 : decode cX10_may 2 = .ok (.invokevirtual 197, 3) := by decide +kernel
theorem dX10_may_5 : decode cX10_may 5 = .ok (.aload_n 0, 1) := by decide +kernel
theorem dX10_may_6 : decode cX10_may 6 = .ok (.iload_n 2, 1) := by decide +kernel
theorem dX10_may_7 : decode cX10_may 7 = .ok (.invokevirtual 128, 3) := by decide +kernel
theorem dX10_may_10 : decode cX10_may 10 = .ok (.aload_n 0, 1) := by decide +kernel
theorem dX10_may_11 : decode cX10_may 11 = .ok (.iload_n 1, 1) := by decide +kernel
theorem dX10_may_12 : decode cX10_may 12 = .ok (.iconst 1, 1) := by decide +kernel
theorem dX10_may_13 : decode cX10_may 13 = .ok (.iload_n 2, 1) := by decide +kernel
theorem dX10_may_14 : decode cX10_may 14 = .ok (.ishl, 1) := by decide +kernel
theorem dX10_may_15 : decode cX10_may 15 = .ok (.invokevirtual 223, 3) := by decide +kernel
theorem dX10_may_18 : decode cX10_may 18 = .ok (.aload_n 0, 1) := by decide +kernel
theorem dX10_may_19 : decode cX10_may 19 = .ok (.getfield 40, 3) := by decide +kernel
theorem dX10_may_22 : decode cX10_may 22 = .ok (.aload_n 0, 1) := by decide +kernel
theorem dX10_may_23 : decode cX10_may 23 = .ok (.getfield 56, 3) := by decide +kernel
theorem dX10_may_26 : decode cX10_may 26 = .ok (.iload_n 1, 1) := by decide +kernel
theorem dX10_may_27 : decode cX10_may 27 = .ok (.invokevirtual 200, 3) := by decide +kernel
theorem dX10_may_30 : decode cX10_may 30 = .ok (.iconst 1, 1) := by decide +kernel
theorem dX10_may_31 : decode cX10_may 31 = .ok (.iload_n 2, 1) := by decide +kernel
theorem dX10_may_32 : decode cX10_may 32 = .ok (.ishl, 1) := by decide +kernel
theorem dX10_may_33 : decode cX10_may 33 = .ok (.iload_n 2, 1) := by decide +kernel
theorem dX10_may_34 : decode cX10_may 34 = .ok (.invokevirtual 229, 3) := by decide +kernel
theorem dX10_may_37 : decode cX10_may 37 = .ok (.ireturn, 1) := by decide +kernel
theorem dX10_likely_0 : decode cX10_likely 0 = .ok (.aload_n 0, 1) := by decide +kernel
theorem dX10_likely_1 : decode cX10_likely 1 = .ok (.iload_n 1, 1) := by decide +kernel
theorem dX10_likely_2 : decode cX10_likely 2 = .ok (.invokevirtual 197, 3) := by decide +kernel
theorem dX10_likely_5 : decode cX10_likely 5 = .ok (.aload_n 0, 1) := by decide +kernel
theorem dX10_likely_6 : decode cX10_likely 6 = .ok (.iload_n 2, 1) := by decide +kernel
theorem dX10_likely_7 : decode cX10_likely 7 = .ok (.invokevirtual 128, 3) := by decide +kernel
theorem dX10_likely_10 : decode cX10_likely 10 = .ok (.aload_n 0, 1) := by decide +kernel
theorem dX10_likely_11 : decode cX10_likely 11 = .ok (.iload_n 1, 1) := by decide +kernel
theorem dX10_likely_12 : decode cX10_likely 12 = .ok (.iconst 1, 1) := by decide +kernel
theorem dX10_likely_13 : decode cX10_likely 13 = .ok (.iload_n 2, 1) := by decide +kernel
theorem dX10_likely_14 : decode cX10_likely 14 = .ok (.ishl, 1) := by decide +kernel
theorem dX10_likely_15 : decode cX10_likely 15 = .ok (.invokevirtual 223, 3) := by decide +kernel
theorem dX10_likely_18 : decode cX10_likely 18 = .ok (.aload_n 0, 1) := by decide +kernel
theorem dX10_likely_19 : decode cX10_likely 19 = .ok (.getfield 72, 3) := by decide +kernel
theorem dX10_likely_22 : decode cX10_likely 22 = .ok (.iload_n 2, 1) := by decide +kernel
theorem dX10_likely_23 : decode cX10_likely 23 = .ok (.aload_n 0, 1) := by decide +kernel
theorem dX10_likely_24 : decode cX10_likely 24 = .ok (.getfield 40, 3) := by decide +kernel
theorem dX10_likely_27 : decode cX10_likely 27 = .ok (.aload_n 0, 1) := by decide +kernel
theorem dX10_likely_28 : decode cX10_likely 28 = .ok (.getfield 56, 3) := by decide +kernel
theorem dX10_likely_31 : decode cX10_likely 31 = .ok (.iload_n 1, 1) := by decide +kernel
theorem dX10_likely_32 : decode cX10_likely 32 = .ok (.invokevirtual 200, 3) := by decide +kernel
theorem dX10_likely_35 : decode cX10_likely 35 = .ok (.iconst 1, 1) := by decide +kernel
theorem dX10_likely_36 : decode cX10_likely 36 = .ok (.iload_n 2, 1) := by decide +kernel
theorem dX10_likely_37 : decode cX10_likely 37 = .ok (.ishl, 1) := by decide +kernel
theorem dX10_likely_38 : decode cX10_likely 38 = .ok (.iload_n 2, 1) := by decide +kernel
theorem dX10_likely_39 : decode cX10_likely 39 = .ok (.invokevirtual 229, 3) := by decide +kernel
theorem dX10_likely_42 : decode cX10_likely 42 = .ok (.invokevirtual 232, 3) := by decide +kernel
theorem dX10_likely_45 : decode cX10_likely 45 = .ok (.ireturn, 1) := by decide +kernel
theorem dX10_needSet_0 : decode cX10_needSet 0 = .ok (.iload_n 1, 1) := by decide +kernel
theorem dX10_needSet_1 : decode cX10_needSet 1 = .ok (.ifCond .lt 14, 3) := by decide +kernel
theorem dX10_needSet_4 : decode cX10_needSet 4 = .ok (.iload_n 1, 1) := by decide +kernel
theorem dX10_needSet_5 : decode cX10_needSet 5 = .ok (.aload_n 0, 1) := by decide +kernel
theorem dX10_needSet_6 : decode cX10_needSet 6 = .ok (.getfield 19, 3) := by decide +kernel
theorem dX10_needSet_9 : decode cX10_needSet 9 = .ok (.invokevirtual 370, 3) := by decide +kernel
theorem dX10_needSet_12 : decode cX10_needSet 12 = .ok (.if_icmp .le 11, 3) := by decide +kernel
theorem dX10_needSet_15 : decode cX10_needSet 15 = .ok (.new 110, 3) := by decide +kernel
theorem dX10_needSet_18 : decode cX10_needSet 18 = .ok (.dup, 1) := by decide +kernel
theorem dX10_needSet_19 : decode cX10_needSet 19 = .ok (.invokespecial 112, 3) := by decide +kernel
theorem dX10_needSet_22 : decode cX10_needSet 22 = .ok (.athrow, 1) := by decide +kernel
theorem dX10_needSet_23 : decode cX10_needSet 23 = .ok (.return_, 1) := by decide +kernel
theorem dX10_mends_0 : decode cX10_mends 0 = .ok (.aload_n 0, 1) := by decide +kernel
theorem dX10_mends_1 : decode cX10_mends 1 = .ok (.iload_n 1, 1) := by decide +kernel
theorem dX10_mends_2 : decode cX10_mends 2 = .ok (.invokevirtual 197, 3) := by decide +kernel
theorem dX10_mends_5 : decode cX10_mends 5 = .ok (.aload_n 0, 1) := by decide +kernel
theorem dX10_mends_6 : decode cX10_mends 6 = .ok (.iload_n 2, 1) := by decide +kernel
theorem dX10_mends_7 : decode cX10_mends 7 = .ok (.invokevirtual 238, 3) := by decide +kernel
theorem dX10_mends_10 : decode cX10_mends 10 = .ok (.aload_n 0, 1) := by decide +kernel
theorem dX10_mends_11 : decode cX10_mends 11 = .ok (.getfield 40, 3) := by decide +kernel
theorem dX10_mends_14 : decode cX10_mends 14 = .ok (.aload_n 0, 1) := by decide +kernel
theorem dX10_mends_15 : decode cX10_mends 15 = .ok (.getfield 56, 3) := by decide +kernel
theorem dX10_mends_18 : decode cX10_mends 18 = .ok (.iload_n 1, 1) := by decide +kernel
theorem dX10_mends_19 : decode cX10_mends 19 = .ok (.invokevirtual 200, 3) := by decide +kernel
theorem dX10_mends_22 : decode cX10_mends 22 = .ok (.iload_n 2, 1) := by decide +kernel
theorem dX10_mends_23 : decode cX10_mends 23 = .ok (.invokevirtual 241, 3) := by decide +kernel
theorem dX10_mends_26 : decode cX10_mends 26 = .ok (.ireturn, 1) := by decide +kernel
theorem dX10_ways_0 : decode cX10_ways 0 = .ok (.aload_n 0, 1) := by decide +kernel
theorem dX10_ways_1 : decode cX10_ways 1 = .ok (.iload_n 1, 1) := by decide +kernel
theorem dX10_ways_2 : decode cX10_ways 2 = .ok (.invokevirtual 197, 3) := by decide +kernel
theorem dX10_ways_5 : decode cX10_ways 5 = .ok (.aload_n 0, 1) := by decide +kernel
theorem dX10_ways_6 : decode cX10_ways 6 = .ok (.iload_n 2, 1) := by decide +kernel
theorem dX10_ways_7 : decode cX10_ways 7 = .ok (.invokevirtual 238, 3) := by decide +kernel
theorem dX10_ways_10 : decode cX10_ways 10 = .ok (.aload_n 0, 1) := by decide +kernel
theorem dX10_ways_11 : decode cX10_ways 11 = .ok (.getfield 40, 3) := by decide +kernel
theorem dX10_ways_14 : decode cX10_ways 14 = .ok (.aload_n 0, 1) := by decide +kernel
theorem dX10_ways_15 : decode cX10_ways 15 = .ok (.getfield 56, 3) := by decide +kernel
theorem dX10_ways_18 : decode cX10_ways 18 = .ok (.iload_n 1, 1) := by decide +kernel
theorem dX10_ways_19 : decode cX10_ways 19 = .ok (.invokevirtual 200, 3) := by decide +kernel
theorem dX10_ways_22 : decode cX10_ways 22 = .ok (.iload_n 2, 1) := by decide +kernel
theorem dX10_ways_23 : decode cX10_ways 23 = .ok (.invokevirtual 245, 3) := by decide +kernel
theorem dX10_ways_26 : decode cX10_ways 26 = .ok (.ireturn, 1) := by decide +kernel
theorem dX10_least_0 : decode cX10_least 0 = .ok (.aload_n 0, 1) := by decide +kernel
theorem dX10_least_1 : decode cX10_least 1 = .ok (.iload_n 1, 1) := by decide +kernel
theorem dX10_least_2 : decode cX10_least 2 = .ok (.invokevirtual 197, 3) := by decide +kernel
theorem dX10_least_5 : decode cX10_least 5 = .ok (.aload_n 0, 1) := by decide +kernel
theorem dX10_least_6 : decode cX10_least 6 = .ok (.getfield 56, 3) := by decide +kernel
theorem dX10_least_9 : decode cX10_least 9 = .ok (.iload_n 1, 1) := by decide +kernel
theorem dX10_least_10 : decode cX10_least 10 = .ok (.invokevirtual 200, 3) := by decide +kernel
theorem dX10_least_13 : decode cX10_least 13 = .ok (.istore_n 3, 1) := by decide +kernel
theorem dX10_least_14 : decode cX10_least 14 = .ok (.iload_n 2, 1) := by decide +kernel
theorem dX10_least_15 : decode cX10_least 15 = .ok (.tableswitch 52 0 2 #[25, 34, 43], 25) := by decide +kernel
theorem dX10_least_40 : decode cX10_least 40 = .ok (.aload_n 0, 1) := by decide +kernel
theorem dX10_least_41 : decode cX10_least 41 = .ok (.getfield 40, 3) := by decide +kernel
theorem dX10_least_44 : decode cX10_least 44 = .ok (.iload_n 3, 1) := by decide +kernel
theorem dX10_least_45 : decode cX10_least 45 = .ok (.invokevirtual 248, 3) := by decide +kernel
theorem dX10_least_48 : decode cX10_least 48 = .ok (.ireturn, 1) := by decide +kernel
theorem dX10_least_49 : decode cX10_least 49 = .ok (.aload_n 0, 1) := by decide +kernel
theorem dX10_least_50 : decode cX10_least 50 = .ok (.getfield 40, 3) := by decide +kernel
theorem dX10_least_53 : decode cX10_least 53 = .ok (.iload_n 3, 1) := by decide +kernel
theorem dX10_least_54 : decode cX10_least 54 = .ok (.invokevirtual 251, 3) := by decide +kernel
theorem dX10_least_57 : decode cX10_least 57 = .ok (.ireturn, 1) := by decide +kernel
theorem dX10_least_58 : decode cX10_least 58 = .ok (.aload_n 0, 1) := by decide +kernel
theorem dX10_least_59 : decode cX10_least 59 = .ok (.getfield 40, 3) := by decide +kernel
theorem dX10_least_62 : decode cX10_least 62 = .ok (.iload_n 3, 1) := by decide +kernel
theorem dX10_least_63 : decode cX10_least 63 = .ok (.invokevirtual 254, 3) := by decide +kernel
theorem dX10_least_66 : decode cX10_least 66 = .ok (.ireturn, 1) := by decide +kernel
theorem dX10_least_67 : decode cX10_least 67 = .ok (.new 143, 3) := by decide +kernel
theorem dX10_least_70 : decode cX10_least 70 = .ok (.dup, 1) := by decide +kernel
theorem dX10_least_71 : decode cX10_least 71 = .ok (.invokespecial 145, 3) := by decide +kernel
theorem dX10_least_74 : decode cX10_least 74 = .ok (.athrow, 1) := by decide +kernel
theorem dX10_leastOf_0 : decode cX10_leastOf 0 = .ok (.aload_n 0, 1) := by decide +kernel
theorem dX10_leastOf_1 : decode cX10_leastOf 1 = .ok (.iload_n 1, 1) := by decide +kernel
theorem dX10_leastOf_2 : decode cX10_leastOf 2 = .ok (.invokevirtual 197, 3) := by decide +kernel
theorem dX10_leastOf_5 : decode cX10_leastOf 5 = .ok (.aload_n 0, 1) := by decide +kernel
theorem dX10_leastOf_6 : decode cX10_leastOf 6 = .ok (.getfield 40, 3) := by decide +kernel
theorem dX10_leastOf_9 : decode cX10_leastOf 9 = .ok (.aload_n 0, 1) := by decide +kernel
theorem dX10_leastOf_10 : decode cX10_leastOf 10 = .ok (.getfield 56, 3) := by decide +kernel
theorem dX10_leastOf_13 : decode cX10_leastOf 13 = .ok (.iload_n 1, 1) := by decide +kernel
theorem dX10_leastOf_14 : decode cX10_leastOf 14 = .ok (.invokevirtual 200, 3) := by decide +kernel
theorem dX10_leastOf_17 : decode cX10_leastOf 17 = .ok (.iload_n 2, 1) := by decide +kernel
theorem dX10_leastOf_18 : decode cX10_leastOf 18 = .ok (.invokevirtual 257, 3) := by decide +kernel
theorem dX10_leastOf_21 : decode cX10_leastOf 21 = .ok (.ireturn, 1) := by decide +kernel
theorem dX10_values_0 : decode cX10_values 0 = .ok (.aload_n 0, 1) := by decide +kernel
theorem dX10_values_1 : decode cX10_values 1 = .ok (.iload_n 1, 1) := by decide +kernel
theorem dX10_values_2 : decode cX10_values 2 = .ok (.invokevirtual 197, 3) := by decide +kernel
theorem dX10_values_5 : decode cX10_values 5 = .ok (.aload_n 0, 1) := by decide +kernel
theorem dX10_values_6 : decode cX10_values 6 = .ok (.iload_n 3, 1) := by decide +kernel
theorem dX10_values_7 : decode cX10_values 7 = .ok (.invokevirtual 128, 3) := by decide +kernel
theorem dX10_values_10 : decode cX10_values 10 = .ok (.aload_n 0, 1) := by decide +kernel
theorem dX10_values_11 : decode cX10_values 11 = .ok (.iload_n 2, 1) := by decide +kernel
theorem dX10_values_12 : decode cX10_values 12 = .ok (.invokevirtual 238, 3) := by decide +kernel
theorem dX10_values_15 : decode cX10_values 15 = .ok (.aload_n 0, 1) := by decide +kernel
theorem dX10_values_16 : decode cX10_values 16 = .ok (.getfield 40, 3) := by decide +kernel
theorem dX10_values_19 : decode cX10_values 19 = .ok (.aload_n 0, 1) := by decide +kernel
theorem dX10_values_20 : decode cX10_values 20 = .ok (.getfield 56, 3) := by decide +kernel
theorem dX10_values_23 : decode cX10_values 23 = .ok (.iload_n 1, 1) := by decide +kernel
theorem dX10_values_24 : decode cX10_values 24 = .ok (.invokevirtual 200, 3) := by decide +kernel
theorem dX10_values_27 : decode cX10_values 27 = .ok (.iload_n 2, 1) := by decide +kernel
theorem dX10_values_28 : decode cX10_values 28 = .ok (.iload_n 3, 1) := by decide +kernel
theorem dX10_values_29 : decode cX10_values 29 = .ok (.invokevirtual 229, 3) := by decide +kernel
theorem dX10_values_32 : decode cX10_values 32 = .ok (.ireturn, 1) := by decide +kernel
theorem dX10_forced_0 : decode cX10_forced 0 = .ok (.aload_n 0, 1) := by decide +kernel
theorem dX10_forced_1 : decode cX10_forced 1 = .ok (.iload_n 1, 1) := by decide +kernel
theorem dX10_forced_2 : decode cX10_forced 2 = .ok (.invokevirtual 197, 3) := by decide +kernel
theorem dX10_forced_5 : decode cX10_forced 5 = .ok (.aload_n 0, 1) := by decide +kernel
theorem dX10_forced_6 : decode cX10_forced 6 = .ok (.getfield 40, 3) := by decide +kernel
theorem dX10_forced_9 : decode cX10_forced 9 = .ok (.aload_n 0, 1) := by decide +kernel
theorem dX10_forced_10 : decode cX10_forced 10 = .ok (.getfield 56, 3) := by decide +kernel
theorem dX10_forced_13 : decode cX10_forced 13 = .ok (.iload_n 1, 1) := by decide +kernel
theorem dX10_forced_14 : decode cX10_forced 14 = .ok (.invokevirtual 200, 3) := by decide +kernel
theorem dX10_forced_17 : decode cX10_forced 17 = .ok (.invokevirtual 260, 3) := by decide +kernel
theorem dX10_forced_20 : decode cX10_forced 20 = .ok (.ireturn, 1) := by decide +kernel
theorem dX10_urgent_0 : decode cX10_urgent 0 = .ok (.aload_n 0, 1) := by decide +kernel
theorem dX10_urgent_1 : decode cX10_urgent 1 = .ok (.getfield 72, 3) := by decide +kernel
theorem dX10_urgent_4 : decode cX10_urgent 4 = .ok (.iload_n 1, 1) := by decide +kernel
theorem dX10_urgent_5 : decode cX10_urgent 5 = .ok (.invokevirtual 263, 3) := by decide +kernel
theorem dX10_urgent_8 : decode cX10_urgent 8 = .ok (.ireturn, 1) := by decide +kernel
theorem dX10_donor_0 : decode cX10_donor 0 = .ok (.aload_n 0, 1) := by decide +kernel
theorem dX10_donor_1 : decode cX10_donor 1 = .ok (.iload_n 1, 1) := by decide +kernel
theorem dX10_donor_2 : decode cX10_donor 2 = .ok (.invokevirtual 197, 3) := by decide +kernel
theorem dX10_donor_5 : decode cX10_donor 5 = .ok (.aload_n 0, 1) := by decide +kernel
theorem dX10_donor_6 : decode cX10_donor 6 = .ok (.getfield 65, 3) := by decide +kernel
theorem dX10_donor_9 : decode cX10_donor 9 = .ok (.iload_n 1, 1) := by decide +kernel
theorem dX10_donor_10 : decode cX10_donor 10 = .ok (.invokevirtual 266, 3) := by decide +kernel
theorem dX10_donor_13 : decode cX10_donor 13 = .ok (.iload_n 3, 1) := by decide +kernel
theorem dX10_donor_14 : decode cX10_donor 14 = .ok (.ifCond .eq 14, 3) := by decide +kernel
theorem dX10_donor_17 : decode cX10_donor 17 = .ok (.aload_n 0, 1) := by decide +kernel
theorem dX10_donor_18 : decode cX10_donor 18 = .ok (.getfield 65, 3) := by decide +kernel
theorem dX10_donor_21 : decode cX10_donor 21 = .ok (.iload_n 2, 1) := by decide +kernel
theorem dX10_donor_22 : decode cX10_donor 22 = .ok (.invokevirtual 269, 3) := by decide +kernel
theorem dX10_donor_25 : decode cX10_donor 25 = .ok (.goto 11, 3) := by decide +kernel
theorem dX10_donor_28 : decode cX10_donor 28 = .ok (.aload_n 0, 1) := by decide +kernel
theorem dX10_donor_29 : decode cX10_donor 29 = .ok (.getfield 65, 3) := by decide +kernel
theorem dX10_donor_32 : decode cX10_donor 32 = .ok (.iload_n 2, 1) := by decide +kernel
theorem dX10_donor_33 : decode cX10_donor 33 = .ok (.invokevirtual 272, 3) := by decide +kernel
theorem dX10_donor_36 : decode cX10_donor 36 = .ok (.ireturn, 1) := by decide +kernel
theorem dX10_needWay_0 : decode cX10_needWay 0 = .ok (.iload_n 1, 1) := by decide +kernel
theorem dX10_needWay_1 : decode cX10_needWay 1 = .ok (.ifCond .lt 8, 3) := by decide +kernel
theorem dX10_needWay_4 : decode cX10_needWay 4 = .ok (.iload_n 1, 1) := by decide +kernel
theorem dX10_needWay_5 : decode cX10_needWay 5 = .ok (.iconst 2, 1) := by decide +kernel
theorem dX10_needWay_6 : decode cX10_needWay 6 = .ok (.if_icmp .le 11, 3) := by decide +kernel
theorem dX10_needWay_9 : decode cX10_needWay 9 = .ok (.new 110, 3) := by decide +kernel
theorem dX10_needWay_12 : decode cX10_needWay 12 = .ok (.dup, 1) := by decide +kernel
theorem dX10_needWay_13 : decode cX10_needWay 13 = .ok (.invokespecial 112, 3) := by decide +kernel
theorem dX10_needWay_16 : decode cX10_needWay 16 = .ok (.athrow, 1) := by decide +kernel
theorem dX10_needWay_17 : decode cX10_needWay 17 = .ok (.return_, 1) := by decide +kernel
theorem dX10_would_0 : decode cX10_would 0 = .ok (.aload_n 0, 1) := by decide +kernel
theorem dX10_would_1 : decode cX10_would 1 = .ok (.iload_n 1, 1) := by decide +kernel
theorem dX10_would_2 : decode cX10_would 2 = .ok (.invokevirtual 197, 3) := by decide +kernel
theorem dX10_would_5 : decode cX10_would 5 = .ok (.aload_n 0, 1) := by decide +kernel
theorem dX10_would_6 : decode cX10_would 6 = .ok (.iload_n 2, 1) := by decide +kernel
theorem dX10_would_7 : decode cX10_would 7 = .ok (.invokevirtual 275, 3) := by decide +kernel
theorem dX10_would_10 : decode cX10_would 10 = .ok (.aload_n 0, 1) := by decide +kernel
theorem dX10_would_11 : decode cX10_would 11 = .ok (.getfield 65, 3) := by decide +kernel
theorem dX10_would_14 : decode cX10_would 14 = .ok (.iload_n 1, 1) := by decide +kernel
theorem dX10_would_15 : decode cX10_would 15 = .ok (.iload_n 2, 1) := by decide +kernel
theorem dX10_would_16 : decode cX10_would 16 = .ok (.invokevirtual 278, 3) := by decide +kernel
theorem dX10_would_19 : decode cX10_would 19 = .ok (.istore_n 3, 1) := by decide +kernel
theorem dX10_would_20 : decode cX10_would 20 = .ok (.iload_n 3, 1) := by decide +kernel
theorem dX10_would_21 : decode cX10_would 21 = .ok (.iconst (-1), 1) := by decide +kernel
theorem dX10_would_22 : decode cX10_would 22 = .ok (.if_icmp .ne 7, 3) := by decide +kernel
theorem dX10_would_25 : decode cX10_would 25 = .ok (.iconst (-1), 1) := by decide +kernel
theorem dX10_would_26 : decode cX10_would 26 = .ok (.goto 14, 3) := by decide +kernel
theorem dX10_would_29 : decode cX10_would 29 = .ok (.iload_n 3, 1) := by decide +kernel
theorem dX10_would_30 : decode cX10_would 30 = .ok (.aload_n 0, 1) := by decide +kernel
theorem dX10_would_31 : decode cX10_would 31 = .ok (.getfield 19, 3) := by decide +kernel
theorem dX10_would_34 : decode cX10_would 34 = .ok (.getfield 183, 3) := by decide +kernel
theorem dX10_would_37 : decode cX10_would 37 = .ok (.invokestatic 281, 3) := by decide +kernel
theorem dX10_would_40 : decode cX10_would 40 = .ok (.ireturn, 1) := by decide +kernel
theorem dX10_mend_0 : decode cX10_mend 0 = .ok (.aload_n 0, 1) := by decide +kernel
theorem dX10_mend_1 : decode cX10_mend 1 = .ok (.iload_n 1, 1) := by decide +kernel
theorem dX10_mend_2 : decode cX10_mend 2 = .ok (.invokevirtual 197, 3) := by decide +kernel
theorem dX10_mend_5 : decode cX10_mend 5 = .ok (.aload_n 0, 1) := by decide +kernel
theorem dX10_mend_6 : decode cX10_mend 6 = .ok (.iload_n 2, 1) := by decide +kernel
theorem dX10_mend_7 : decode cX10_mend 7 = .ok (.invokevirtual 275, 3) := by decide +kernel
theorem dX10_mend_10 : decode cX10_mend 10 = .ok (.aload_n 0, 1) := by decide +kernel
theorem dX10_mend_11 : decode cX10_mend 11 = .ok (.getfield 56, 3) := by decide +kernel
theorem dX10_mend_14 : decode cX10_mend 14 = .ok (.iload_n 1, 1) := by decide +kernel
theorem dX10_mend_15 : decode cX10_mend 15 = .ok (.invokevirtual 200, 3) := by decide +kernel
theorem dX10_mend_18 : decode cX10_mend 18 = .ok (.istore_n 3, 1) := by decide +kernel
theorem dX10_mend_19 : decode cX10_mend 19 = .ok (.aload_n 0, 1) := by decide +kernel
theorem dX10_mend_20 : decode cX10_mend 20 = .ok (.getfield 40, 3) := by decide +kernel
theorem dX10_mend_23 : decode cX10_mend 23 = .ok (.iload_n 3, 1) := by decide +kernel
theorem dX10_mend_24 : decode cX10_mend 24 = .ok (.invokevirtual 284, 3) := by decide +kernel
theorem dX10_mend_27 : decode cX10_mend 27 = .ok (.ifCond .eq 7, 3) := by decide +kernel
theorem dX10_mend_30 : decode cX10_mend 30 = .ok (.iconst (-1), 1) := by decide +kernel
theorem dX10_mend_31 : decode cX10_mend 31 = .ok (.goto 12, 3) := by decide +kernel
theorem dX10_mend_34 : decode cX10_mend 34 = .ok (.aload_n 0, 1) := by decide +kernel
theorem dX10_mend_35 : decode cX10_mend 35 = .ok (.getfield 65, 3) := by decide +kernel
theorem dX10_mend_38 : decode cX10_mend 38 = .ok (.iload_n 1, 1) := by decide +kernel
theorem dX10_mend_39 : decode cX10_mend 39 = .ok (.iload_n 2, 1) := by decide +kernel
theorem dX10_mend_40 : decode cX10_mend 40 = .ok (.invokevirtual 278, 3) := by decide +kernel
theorem dX10_mend_43 : decode cX10_mend 43 = .ok (.istore 4, 2) := by decide +kernel
theorem dX10_mend_45 : decode cX10_mend 45 = .ok (.iload 4, 2) := by decide +kernel
theorem dX10_mend_47 : decode cX10_mend 47 = .ok (.iconst (-1), 1) := by decide +kernel
theorem dX10_mend_48 : decode cX10_mend 48 = .ok (.if_icmp .ne 11, 3) := by decide +kernel
theorem dX10_mend_51 : decode cX10_mend 51 = .ok (.new 220, 3) := by decide +kernel
theorem dX10_mend_54 : decode cX10_mend 54 = .ok (.dup, 1) := by decide +kernel
theorem dX10_mend_55 : decode cX10_mend 55 = .ok (.invokespecial 222, 3) := by decide +kernel
theorem dX10_mend_58 : decode cX10_mend 58 = .ok (.athrow, 1) := by decide +kernel
theorem dX10_mend_59 : decode cX10_mend 59 = .ok (.aload_n 0, 1) := by decide +kernel
theorem dX10_mend_60 : decode cX10_mend 60 = .ok (.getfield 56, 3) := by decide +kernel
theorem dX10_mend_63 : decode cX10_mend 63 = .ok (.invokevirtual 210, 3) := by decide +kernel
theorem dX10_mend_66 : decode cX10_mend 66 = .ok (.aload_n 0, 1) := by decide +kernel
theorem dX10_mend_67 : decode cX10_mend 67 = .ok (.getfield 56, 3) := by decide +kernel
theorem dX10_mend_70 : decode cX10_mend 70 = .ok (.getfield 213, 3) := by decide +kernel
theorem dX10_mend_73 : decode cX10_mend 73 = .ok (.iload_n 1, 1) := by decide +kernel
theorem dX10_mend_74 : decode cX10_mend 74 = .ok (.iload 4, 2) := by decide +kernel
theorem dX10_mend_76 : decode cX10_mend 76 = .ok (.iastore, 1) := by decide +kernel
theorem dX10_mend_77 : decode cX10_mend 77 = .ok (.iload_n 3, 1) := by decide +kernel
theorem dX10_mend_78 : decode cX10_mend 78 = .ok (.iload 4, 2) := by decide +kernel
theorem dX10_mend_80 : decode cX10_mend 80 = .ok (.invokestatic 287, 3) := by decide +kernel
theorem dX10_mend_83 : decode cX10_mend 83 = .ok (.invokestatic 290, 3) := by decide +kernel
theorem dX10_mend_86 : decode cX10_mend 86 = .ok (.ireturn, 1) := by decide +kernel
theorem dX10_mendAside_0 : decode cX10_mendAside 0 = .ok (.iconst 0, 1) := by decide +kernel
theorem dX10_mendAside_1 : decode cX10_mendAside 1 = .ok (.istore_n 2, 1) := by decide +kernel
theorem dX10_mendAside_2 : decode cX10_mendAside 2 = .ok (.iconst 0, 1) := by decide +kernel
theorem dX10_mendAside_3 : decode cX10_mendAside 3 = .ok (.istore_n 3, 1) := by decide +kernel
theorem dX10_mendAside_4 : decode cX10_mendAside 4 = .ok (.iload_n 3, 1) := by decide +kernel
theorem dX10_mendAside_5 : decode cX10_mendAside 5 = .ok (.aload_n 0, 1) := by decide +kernel
theorem dX10_mendAside_6 : decode cX10_mendAside 6 = .ok (.getfield 56, 3) := by decide +kernel
theorem dX10_mendAside_9 : decode cX10_mendAside 9 = .ok (.getfield 125, 3) := by decide +kernel
theorem dX10_mendAside_12 : decode cX10_mendAside 12 = .ok (.if_icmp .ge 71, 3) := by decide +kernel
theorem dX10_mendAside_15 : decode cX10_mendAside 15 = .ok (.aload_n 0, 1) := by decide +kernel
theorem dX10_mendAside_16 : decode cX10_mendAside 16 = .ok (.getfield 56, 3) := by decide +kernel
theorem dX10_mendAside_19 : decode cX10_mendAside 19 = .ok (.getfield 213, 3) := by decide +kernel
theorem dX10_mendAside_22 : decode cX10_mendAside 22 = .ok (.iload_n 3, 1) := by decide +kernel
theorem dX10_mendAside_23 : decode cX10_mendAside 23 = .ok (.iaload, 1) := by decide +kernel
theorem dX10_mendAside_24 : decode cX10_mendAside 24 = .ok (.istore 4, 2) := by decide +kernel
theorem dX10_mendAside_26 : decode cX10_mendAside 26 = .ok (.aload_n 0, 1) := by decide +kernel
theorem dX10_mendAside_27 : decode cX10_mendAside 27 = .ok (.getfield 65, 3) := by decide +kernel
theorem dX10_mendAside_30 : decode cX10_mendAside 30 = .ok (.iload_n 3, 1) := by decide +kernel
theorem dX10_mendAside_31 : decode cX10_mendAside 31 = .ok (.iload_n 1, 1) := by decide +kernel
theorem dX10_mendAside_32 : decode cX10_mendAside 32 = .ok (.invokevirtual 278, 3) := by decide +kernel
theorem dX10_mendAside_35 : decode cX10_mendAside 35 = .ok (.istore 5, 2) := by decide +kernel
theorem dX10_mendAside_37 : decode cX10_mendAside 37 = .ok (.iload 5, 2) := by decide +kernel
theorem dX10_mendAside_39 : decode cX10_mendAside 39 = .ok (.iconst (-1), 1) := by decide +kernel
theorem dX10_mendAside_40 : decode cX10_mendAside 40 = .ok (.if_icmp .eq 18, 3) := by decide +kernel
theorem dX10_mendAside_43 : decode cX10_mendAside 43 = .ok (.aload_n 0, 1) := by decide +kernel
theorem dX10_mendAside_44 : decode cX10_mendAside 44 = .ok (.getfield 40, 3) := by decide +kernel
theorem dX10_mendAside_47 : decode cX10_mendAside 47 = .ok (.iload 4, 2) := by decide +kernel
theorem dX10_mendAside_49 : decode cX10_mendAside 49 = .ok (.invokevirtual 284, 3) := by decide +kernel
theorem dX10_mendAside_52 : decode cX10_mendAside 52 = .ok (.ifCond .ne 6, 3) := by decide +kernel
theorem dX10_mendAside_55 : decode cX10_mendAside 55 = .ok (.iinc 2 1, 3) := by decide +kernel
theorem dX10_mendAside_58 : decode cX10_mendAside 58 = .ok (.aload_n 0, 1) := by decide +kernel
theorem dX10_mendAside_59 : decode cX10_mendAside 59 = .ok (.getfield 76, 3) := by decide +kernel
theorem dX10_mendAside_62 : decode cX10_mendAside 62 = .ok (.iload_n 3, 1) := by decide +kernel
theorem dX10_mendAside_63 : decode cX10_mendAside 63 = .ok (.iload 5, 2) := by decide +kernel
theorem dX10_mendAside_65 : decode cX10_mendAside 65 = .ok (.iconst (-1), 1) := by decide +kernel
theorem dX10_mendAside_66 : decode cX10_mendAside 66 = .ok (.if_icmp .ne 8, 3) := by decide +kernel
theorem dX10_mendAside_69 : decode cX10_mendAside 69 = .ok (.iload 4, 2) := by decide +kernel
theorem dX10_mendAside_71 : decode cX10_mendAside 71 = .ok (.goto 5, 3) := by decide +kernel
theorem dX10_mendAside_74 : decode cX10_mendAside 74 = .ok (.iload 5, 2) := by decide +kernel
theorem dX10_mendAside_76 : decode cX10_mendAside 76 = .ok (.iastore, 1) := by decide +kernel
theorem dX10_mendAside_77 : decode cX10_mendAside 77 = .ok (.iinc 3 1, 3) := by decide +kernel
theorem dX10_mendAside_80 : decode cX10_mendAside 80 = .ok (.goto (-76), 3) := by decide +kernel
theorem dX10_mendAside_83 : decode cX10_mendAside 83 = .ok (.iload_n 2, 1) := by decide +kernel
theorem dX10_mendAside_84 : decode cX10_mendAside 84 = .ok (.ireturn, 1) := by decide +kernel
theorem dX10_mendAll_0 : decode cX10_mendAll 0 = .ok (.aload_n 0, 1) := by decide +kernel
theorem dX10_mendAll_1 : decode cX10_mendAll 1 = .ok (.iload_n 1, 1) := by decide +kernel
theorem dX10_mendAll_2 : decode cX10_mendAll 2 = .ok (.invokevirtual 275, 3) := by decide +kernel
theorem dX10_mendAll_5 : decode cX10_mendAll 5 = .ok (.aload_n 0, 1) := by decide +kernel
theorem dX10_mendAll_6 : decode cX10_mendAll 6 = .ok (.iload_n 1, 1) := by decide +kernel
theorem dX10_mendAll_7 : decode cX10_mendAll 7 = .ok (.invokevirtual 295, 3) := by decide +kernel
theorem dX10_mendAll_10 : decode cX10_mendAll 10 = .ok (.istore_n 2, 1) := by decide +kernel
theorem dX10_mendAll_11 : decode cX10_mendAll 11 = .ok (.aload_n 0, 1) := by decide +kernel
theorem dX10_mendAll_12 : decode cX10_mendAll 12 = .ok (.getfield 56, 3) := by decide +kernel
theorem dX10_mendAll_15 : decode cX10_mendAll 15 = .ok (.invokevirtual 210, 3) := by decide +kernel
theorem dX10_mendAll_18 : decode cX10_mendAll 18 = .ok (.aload_n 0, 1) := by decide +kernel
theorem dX10_mendAll_19 : decode cX10_mendAll 19 = .ok (.getfield 76, 3) := by decide +kernel
theorem dX10_mendAll_22 : decode cX10_mendAll 22 = .ok (.iconst 0, 1) := by decide +kernel
theorem dX10_mendAll_23 : decode cX10_mendAll 23 = .ok (.aload_n 0, 1) := by decide +kernel
theorem dX10_mendAll_24 : decode cX10_mendAll 24 = .ok (.getfield 56, 3) := by decide +kernel
theorem dX10_mendAll_27 : decode cX10_mendAll 27 = .ok (.getfield 213, 3) := by decide +kernel
theorem dX10_mendAll_30 : decode cX10_mendAll 30 = .ok (.iconst 0, 1) := by decide +kernel
theorem dX10_mendAll_31 : decode cX10_mendAll 31 = .ok (.aload_n 0, 1) := by decide +kernel
theorem dX10_mendAll_32 : decode cX10_mendAll 32 = .ok (.getfield 56, 3) := by decide +kernel
theorem dX10_mendAll_35 : decode cX10_mendAll 35 = .ok (.getfield 125, 3) := by decide +kernel
theorem dX10_mendAll_38 : decode cX10_mendAll 38 = .ok (.invokestatic 298, 3) := by decide +kernel
theorem dX10_mendAll_41 : decode cX10_mendAll 41 = .ok (.iload_n 2, 1) := by decide +kernel
theorem dX10_mendAll_42 : decode cX10_mendAll 42 = .ok (.ireturn, 1) := by decide +kernel
theorem dX10_trial_0 : decode cX10_trial 0 = .ok (.aload_n 0, 1) := by decide +kernel
theorem dX10_trial_1 : decode cX10_trial 1 = .ok (.iload_n 1, 1) := by decide +kernel
theorem dX10_trial_2 : decode cX10_trial 2 = .ok (.invokevirtual 275, 3) := by decide +kernel
theorem dX10_trial_5 : decode cX10_trial 5 = .ok (.iload_n 2, 1) := by decide +kernel
theorem dX10_trial_6 : decode cX10_trial 6 = .ok (.ifCond .lt 8, 3) := by decide +kernel
theorem dX10_trial_9 : decode cX10_trial 9 = .ok (.iload_n 2, 1) := by decide +kernel
theorem dX10_trial_10 : decode cX10_trial 10 = .ok (.iconst 2, 1) := by decide +kernel
theorem dX10_trial_11 : decode cX10_trial 11 = .ok (.if_icmp .le 11, 3) := by decide +kernel
theorem dX10_trial_14 : decode cX10_trial 14 = .ok (.new 143, 3) := by decide +kernel
theorem dX10_trial_17 : decode cX10_trial 17 = .ok (.dup, 1) := by decide +kernel
theorem dX10_trial_18 : decode cX10_trial 18 = .ok (.invokespecial 145, 3) := by decide +kernel
theorem dX10_trial_21 : decode cX10_trial 21 = .ok (.athrow, 1) := by decide +kernel
theorem dX10_trial_22 : decode cX10_trial 22 = .ok (.aload_n 0, 1) := by decide +kernel
theorem dX10_trial_23 : decode cX10_trial 23 = .ok (.iload_n 1, 1) := by decide +kernel
theorem dX10_trial_24 : decode cX10_trial 24 = .ok (.invokevirtual 295, 3) := by decide +kernel
theorem dX10_trial_27 : decode cX10_trial 27 = .ok (.istore_n 3, 1) := by decide +kernel
theorem dX10_trial_28 : decode cX10_trial 28 = .ok (.iload_n 2, 1) := by decide +kernel
theorem dX10_trial_29 : decode cX10_trial 29 = .ok (.ifCond .ne 13, 3) := by decide +kernel
theorem dX10_trial_32 : decode cX10_trial 32 = .ok (.aload_n 0, 1) := by decide +kernel
theorem dX10_trial_33 : decode cX10_trial 33 = .ok (.getfield 72, 3) := by decide +kernel
theorem dX10_trial_36 : decode cX10_trial 36 = .ok (.invokevirtual 304, 3) := by decide +kernel
theorem dX10_trial_39 : decode cX10_trial 39 = .ok (.iload_n 3, 1) := by decide +kernel
theorem dX10_trial_40 : decode cX10_trial 40 = .ok (.iadd, 1) := by decide +kernel
theorem dX10_trial_41 : decode cX10_trial 41 = .ok (.ireturn, 1) := by decide +kernel
theorem dX10_trial_42 : decode cX10_trial 42 = .ok (.iconst 0, 1) := by decide +kernel
theorem dX10_trial_43 : decode cX10_trial 43 = .ok (.istore 4, 2) := by decide +kernel
theorem dX10_trial_45 : decode cX10_trial 45 = .ok (.iconst 0, 1) := by decide +kernel
theorem dX10_trial_46 : decode cX10_trial 46 = .ok (.istore 5, 2) := by decide +kernel
theorem dX10_trial_48 : decode cX10_trial 48 = .ok (.iload 5, 2) := by decide +kernel
theorem dX10_trial_50 : decode cX10_trial 50 = .ok (.aload_n 0, 1) := by decide +kernel
theorem dX10_trial_51 : decode cX10_trial 51 = .ok (.getfield 56, 3) := by decide +kernel
theorem dX10_trial_54 : decode cX10_trial 54 = .ok (.getfield 125, 3) := by decide +kernel
theorem dX10_trial_57 : decode cX10_trial 57 = .ok (.if_icmp .ge 58, 3) := by decide +kernel
theorem dX10_trial_60 : decode cX10_trial 60 = .ok (.aload_n 0, 1) := by decide +kernel
theorem dX10_trial_61 : decode cX10_trial 61 = .ok (.getfield 56, 3) := by decide +kernel
theorem dX10_trial_64 : decode cX10_trial 64 = .ok (.getfield 213, 3) := by decide +kernel
theorem dX10_trial_67 : decode cX10_trial 67 = .ok (.iload 5, 2) := by decide +kernel
theorem dX10_trial_69 : decode cX10_trial 69 = .ok (.iaload, 1) := by decide +kernel
theorem dX10_trial_70 : decode cX10_trial 70 = .ok (.aload_n 0, 1) := by decide +kernel
theorem dX10_trial_71 : decode cX10_trial 71 = .ok (.getfield 76, 3) := by decide +kernel
theorem dX10_trial_74 : decode cX10_trial 74 = .ok (.iload 5, 2) := by decide +kernel
theorem dX10_trial_76 : decode cX10_trial 76 = .ok (.iaload, 1) := by decide +kernel
theorem dX10_trial_77 : decode cX10_trial 77 = .ok (.invokestatic 287, 3) := by decide +kernel
theorem dX10_trial_80 : decode cX10_trial 80 = .ok (.istore 6, 2) := by decide +kernel
theorem dX10_trial_82 : decode cX10_trial 82 = .ok (.iload 4, 2) := by decide +kernel
theorem dX10_trial_84 : decode cX10_trial 84 = .ok (.iload_n 2, 1) := by decide +kernel
theorem dX10_trial_85 : decode cX10_trial 85 = .ok (.iconst 1, 1) := by decide +kernel
theorem dX10_trial_86 : decode cX10_trial 86 = .ok (.if_icmp .ne 11, 3) := by decide +kernel
theorem dX10_trial_89 : decode cX10_trial 89 = .ok (.iload 6, 2) := by decide +kernel
theorem dX10_trial_91 : decode cX10_trial 91 = .ok (.invokestatic 290, 3) := by decide +kernel
theorem dX10_trial_94 : decode cX10_trial 94 = .ok (.goto 12, 3) := by decide +kernel
theorem dX10_trial_97 : decode cX10_trial 97 = .ok (.aload_n 0, 1) := by decide +kernel
theorem dX10_trial_98 : decode cX10_trial 98 = .ok (.getfield 19, 3) := by decide +kernel
theorem dX10_trial_101 : decode cX10_trial 101 = .ok (.iload 6, 2) := by decide +kernel
theorem dX10_trial_103 : decode cX10_trial 103 = .ok (.invokevirtual 307, 3) := by decide +kernel
theorem dX10_trial_106 : decode cX10_trial 106 = .ok (.iadd, 1) := by decide +kernel
theorem dX10_trial_107 : decode cX10_trial 107 = .ok (.istore 4, 2) := by decide +kernel
theorem dX10_trial_109 : decode cX10_trial 109 = .ok (.iinc 5 1, 3) := by decide +kernel
theorem dX10_trial_112 : decode cX10_trial 112 = .ok (.goto (-64), 3) := by decide +kernel
theorem dX10_trial_115 : decode cX10_trial 115 = .ok (.iload 4, 2) := by decide +kernel
theorem dX10_trial_117 : decode cX10_trial 117 = .ok (.ireturn, 1) := by decide +kernel
theorem dX10_undo_0 : decode cX10_undo 0 = .ok (.aload_n 0, 1) := by decide +kernel
theorem dX10_undo_1 : decode cX10_undo 1 = .ok (.getfield 56, 3) := by decide +kernel
theorem dX10_undo_4 : decode cX10_undo 4 = .ok (.invokevirtual 310, 3) := by decide +kernel
theorem dX10_undo_7 : decode cX10_undo 7 = .ok (.ifCond .eq 13, 3) := by decide +kernel
theorem dX10_undo_10 : decode cX10_undo 10 = .ok (.aload_n 0, 1) := by decide +kernel
theorem dX10_undo_11 : decode cX10_undo 11 = .ok (.getfield 56, 3) := by decide +kernel
theorem dX10_undo_14 : decode cX10_undo 14 = .ok (.getfield 313, 3) := by decide +kernel
theorem dX10_undo_17 : decode cX10_undo 17 = .ok (.goto 4, 3) := by decide +kernel
theorem dX10_undo_20 : decode cX10_undo 20 = .ok (.iconst (-1), 1) := by decide +kernel
theorem dX10_undo_21 : decode cX10_undo 21 = .ok (.ireturn, 1) := by decide +kernel
theorem dX10_pattern_0 : decode cX10_pattern 0 = .ok (.aload_n 0, 1) := by decide +kernel
theorem dX10_pattern_1 : decode cX10_pattern 1 = .ok (.getfield 72, 3) := by decide +kernel
theorem dX10_pattern_4 : decode cX10_pattern 4 = .ok (.iload_n 1, 1) := by decide +kernel
theorem dX10_pattern_5 : decode cX10_pattern 5 = .ok (.invokevirtual 316, 3) := by decide +kernel
theorem dX10_pattern_8 : decode cX10_pattern 8 = .ok (.istore_n 3, 1) := by decide +kernel
theorem dX10_pattern_9 : decode cX10_pattern 9 = .ok (.iload_n 3, 1) := by decide +kernel
theorem dX10_pattern_10 : decode cX10_pattern 10 = .ok (.iconst (-1), 1) := by decide +kernel
theorem dX10_pattern_11 : decode cX10_pattern 11 = .ok (.if_icmp .ne 11, 3) := by decide +kernel
theorem dX10_pattern_14 : decode cX10_pattern 14 = .ok (.new 143, 3) := by decide +kernel
theorem dX10_pattern_17 : decode cX10_pattern 17 = .ok (.dup, 1) := by decide +kernel
theorem dX10_pattern_18 : decode cX10_pattern 18 = .ok (.invokespecial 145, 3) := by decide +kernel
theorem dX10_pattern_21 : decode cX10_pattern 21 = .ok (.athrow, 1) := by decide +kernel
theorem dX10_pattern_22 : decode cX10_pattern 22 = .ok (.aload_n 0, 1) := by decide +kernel
theorem dX10_pattern_23 : decode cX10_pattern 23 = .ok (.getfield 56, 3) := by decide +kernel
theorem dX10_pattern_26 : decode cX10_pattern 26 = .ok (.iload_n 3, 1) := by decide +kernel
theorem dX10_pattern_27 : decode cX10_pattern 27 = .ok (.invokevirtual 200, 3) := by decide +kernel
theorem dX10_pattern_30 : decode cX10_pattern 30 = .ok (.istore 4, 2) := by decide +kernel
theorem dX10_pattern_32 : decode cX10_pattern 32 = .ok (.iload_n 2, 1) := by decide +kernel
theorem dX10_pattern_33 : decode cX10_pattern 33 = .ok (.tableswitch 65 0 3 #[31, 41, 54, 63], 31) := by decide +kernel
theorem dX10_pattern_64 : decode cX10_pattern 64 = .ok (.aload_n 0, 1) := by decide +kernel
theorem dX10_pattern_65 : decode cX10_pattern 65 = .ok (.getfield 40, 3) := by decide +kernel
theorem dX10_pattern_68 : decode cX10_pattern 68 = .ok (.iload 4, 2) := by decide +kernel
theorem dX10_pattern_70 : decode cX10_pattern 70 = .ok (.invokevirtual 194, 3) := by decide +kernel
theorem dX10_pattern_73 : decode cX10_pattern 73 = .ok (.ireturn, 1) := by decide +kernel
theorem dX10_pattern_74 : decode cX10_pattern 74 = .ok (.iload 4, 2) := by decide +kernel
theorem dX10_pattern_76 : decode cX10_pattern 76 = .ok (.aload_n 0, 1) := by decide +kernel
theorem dX10_pattern_77 : decode cX10_pattern 77 = .ok (.getfield 19, 3) := by decide +kernel
theorem dX10_pattern_80 : decode cX10_pattern 80 = .ok (.getfield 183, 3) := by decide +kernel
theorem dX10_pattern_83 : decode cX10_pattern 83 = .ok (.invokestatic 319, 3) := by decide +kernel
theorem dX10_pattern_86 : decode cX10_pattern 86 = .ok (.ireturn, 1) := by decide +kernel
theorem dX10_pattern_87 : decode cX10_pattern 87 = .ok (.aload_n 0, 1) := by decide +kernel
theorem dX10_pattern_88 : decode cX10_pattern 88 = .ok (.getfield 72, 3) := by decide +kernel
theorem dX10_pattern_91 : decode cX10_pattern 91 = .ok (.iload_n 3, 1) := by decide +kernel
theorem dX10_pattern_92 : decode cX10_pattern 92 = .ok (.invokevirtual 322, 3) := by decide +kernel
theorem dX10_pattern_95 : decode cX10_pattern 95 = .ok (.ireturn, 1) := by decide +kernel
theorem dX10_pattern_96 : decode cX10_pattern 96 = .ok (.iload_n 3, 1) := by decide +kernel
theorem dX10_pattern_97 : decode cX10_pattern 97 = .ok (.ireturn, 1) := by decide +kernel
theorem dX10_pattern_98 : decode cX10_pattern 98 = .ok (.new 143, 3) := by decide +kernel
theorem dX10_pattern_101 : decode cX10_pattern 101 = .ok (.dup, 1) := by decide +kernel
theorem dX10_pattern_102 : decode cX10_pattern 102 = .ok (.invokespecial 145, 3) := by decide +kernel
theorem dX10_pattern_105 : decode cX10_pattern 105 = .ok (.athrow, 1) := by decide +kernel
theorem dX10_patterns_0 : decode cX10_patterns 0 = .ok (.aload_n 0, 1) := by decide +kernel
theorem dX10_patterns_1 : decode cX10_patterns 1 = .ok (.getfield 72, 3) := by decide +kernel
theorem dX10_patterns_4 : decode cX10_patterns 4 = .ok (.invokevirtual 325, 3) := by decide +kernel
theorem dX10_patterns_7 : decode cX10_patterns 7 = .ok (.ireturn, 1) := by decide +kernel
theorem dX10_alike_0 : decode cX10_alike 0 = .ok (.aload_n 0, 1) := by decide +kernel
theorem dX10_alike_1 : decode cX10_alike 1 = .ok (.iload_n 1, 1) := by decide +kernel
theorem dX10_alike_2 : decode cX10_alike 2 = .ok (.invokevirtual 197, 3) := by decide +kernel
theorem dX10_alike_5 : decode cX10_alike 5 = .ok (.iload_n 2, 1) := by decide +kernel
theorem dX10_alike_6 : decode cX10_alike 6 = .ok (.ifCond .eq 14, 3) := by decide +kernel
theorem dX10_alike_9 : decode cX10_alike 9 = .ok (.aload_n 0, 1) := by decide +kernel
theorem dX10_alike_10 : decode cX10_alike 10 = .ok (.getfield 72, 3) := by decide +kernel
theorem dX10_alike_13 : decode cX10_alike 13 = .ok (.iload_n 1, 1) := by decide +kernel
theorem dX10_alike_14 : decode cX10_alike 14 = .ok (.invokevirtual 328, 3) := by decide +kernel
theorem dX10_alike_17 : decode cX10_alike 17 = .ok (.goto 11, 3) := by decide +kernel
theorem dX10_alike_20 : decode cX10_alike 20 = .ok (.aload_n 0, 1) := by decide +kernel
theorem dX10_alike_21 : decode cX10_alike 21 = .ok (.getfield 72, 3) := by decide +kernel
theorem dX10_alike_24 : decode cX10_alike 24 = .ok (.iload_n 1, 1) := by decide +kernel
theorem dX10_alike_25 : decode cX10_alike 25 = .ok (.invokevirtual 331, 3) := by decide +kernel
theorem dX10_alike_28 : decode cX10_alike 28 = .ok (.ireturn, 1) := by decide +kernel
theorem dX10_near_0 : decode cX10_near 0 = .ok (.aload_n 0, 1) := by decide +kernel
theorem dX10_near_1 : decode cX10_near 1 = .ok (.iload_n 1, 1) := by decide +kernel
theorem dX10_near_2 : decode cX10_near 2 = .ok (.invokevirtual 197, 3) := by decide +kernel
theorem dX10_near_5 : decode cX10_near 5 = .ok (.aload_n 0, 1) := by decide +kernel
theorem dX10_near_6 : decode cX10_near 6 = .ok (.iload_n 2, 1) := by decide +kernel
theorem dX10_near_7 : decode cX10_near 7 = .ok (.invokevirtual 197, 3) := by decide +kernel
theorem dX10_near_10 : decode cX10_near 10 = .ok (.aload_n 0, 1) := by decide +kernel
theorem dX10_near_11 : decode cX10_near 11 = .ok (.getfield 19, 3) := by decide +kernel
theorem dX10_near_14 : decode cX10_near 14 = .ok (.aload_n 0, 1) := by decide +kernel
theorem dX10_near_15 : decode cX10_near 15 = .ok (.getfield 56, 3) := by decide +kernel
theorem dX10_near_18 : decode cX10_near 18 = .ok (.iload_n 1, 1) := by decide +kernel
theorem dX10_near_19 : decode cX10_near 19 = .ok (.invokevirtual 200, 3) := by decide +kernel
theorem dX10_near_22 : decode cX10_near 22 = .ok (.aload_n 0, 1) := by decide +kernel
theorem dX10_near_23 : decode cX10_near 23 = .ok (.getfield 56, 3) := by decide +kernel
theorem dX10_near_26 : decode cX10_near 26 = .ok (.iload_n 2, 1) := by decide +kernel
theorem dX10_near_27 : decode cX10_near 27 = .ok (.invokevirtual 200, 3) := by decide +kernel
theorem dX10_near_30 : decode cX10_near 30 = .ok (.iconst 0, 1) := by decide +kernel
theorem dX10_near_31 : decode cX10_near 31 = .ok (.invokevirtual 334, 3) := by decide +kernel
theorem dX10_near_34 : decode cX10_near 34 = .ok (.ireturn, 1) := by decide +kernel
theorem dX10_bunch_0 : decode cX10_bunch 0 = .ok (.iload_n 1, 1) := by decide +kernel
theorem dX10_bunch_1 : decode cX10_bunch 1 = .ok (.iconst (-1), 1) := by decide +kernel
theorem dX10_bunch_2 : decode cX10_bunch 2 = .ok (.if_icmp .eq 8, 3) := by decide +kernel
theorem dX10_bunch_5 : decode cX10_bunch 5 = .ok (.aload_n 0, 1) := by decide +kernel
theorem dX10_bunch_6 : decode cX10_bunch 6 = .ok (.iload_n 1, 1) := by decide +kernel
theorem dX10_bunch_7 : decode cX10_bunch 7 = .ok (.invokevirtual 197, 3) := by decide +kernel
theorem dX10_bunch_10 : decode cX10_bunch 10 = .ok (.aload_n 0, 1) := by decide +kernel
theorem dX10_bunch_11 : decode cX10_bunch 11 = .ok (.getfield 72, 3) := by decide +kernel
theorem dX10_bunch_14 : decode cX10_bunch 14 = .ok (.iload_n 2, 1) := by decide +kernel
theorem dX10_bunch_15 : decode cX10_bunch 15 = .ok (.invokevirtual 337, 3) := by decide +kernel
theorem dX10_bunch_18 : decode cX10_bunch 18 = .ok (.istore_n 3, 1) := by decide +kernel
theorem dX10_bunch_19 : decode cX10_bunch 19 = .ok (.iload_n 1, 1) := by decide +kernel
theorem dX10_bunch_20 : decode cX10_bunch 20 = .ok (.iconst (-1), 1) := by decide +kernel
theorem dX10_bunch_21 : decode cX10_bunch 21 = .ok (.if_icmp .ne 7, 3) := by decide +kernel
theorem dX10_bunch_24 : decode cX10_bunch 24 = .ok (.iload_n 3, 1) := by decide +kernel
theorem dX10_bunch_25 : decode cX10_bunch 25 = .ok (.goto 11, 3) := by decide +kernel
theorem dX10_bunch_28 : decode cX10_bunch 28 = .ok (.aload_n 0, 1) := by decide +kernel
theorem dX10_bunch_29 : decode cX10_bunch 29 = .ok (.getfield 72, 3) := by decide +kernel
theorem dX10_bunch_32 : decode cX10_bunch 32 = .ok (.iload_n 1, 1) := by decide +kernel
theorem dX10_bunch_33 : decode cX10_bunch 33 = .ok (.invokevirtual 340, 3) := by decide +kernel
theorem dX10_bunch_36 : decode cX10_bunch 36 = .ok (.ireturn, 1) := by decide +kernel
theorem dX10_changes_0 : decode cX10_changes 0 = .ok (.aload_n 0, 1) := by decide +kernel
theorem dX10_changes_1 : decode cX10_changes 1 = .ok (.iload_n 1, 1) := by decide +kernel
theorem dX10_changes_2 : decode cX10_changes 2 = .ok (.invokevirtual 128, 3) := by decide +kernel
theorem dX10_changes_5 : decode cX10_changes 5 = .ok (.aload_n 0, 1) := by decide +kernel
theorem dX10_changes_6 : decode cX10_changes 6 = .ok (.getfield 72, 3) := by decide +kernel
theorem dX10_changes_9 : decode cX10_changes 9 = .ok (.iload_n 1, 1) := by decide +kernel
theorem dX10_changes_10 : decode cX10_changes 10 = .ok (.invokevirtual 343, 3) := by decide +kernel
theorem dX10_changes_13 : decode cX10_changes 13 = .ok (.ireturn, 1) := by decide +kernel
theorem dX10_unlike_0 : decode cX10_unlike 0 = .ok (.aload_n 0, 1) := by decide +kernel
theorem dX10_unlike_1 : decode cX10_unlike 1 = .ok (.getfield 72, 3) := by decide +kernel
theorem dX10_unlike_4 : decode cX10_unlike 4 = .ok (.invokevirtual 346, 3) := by decide +kernel
theorem dX10_unlike_7 : decode cX10_unlike 7 = .ok (.ireturn, 1) := by decide +kernel
theorem dX10_needGroup_0 : decode cX10_needGroup 0 = .ok (.aload_n 0, 1) := by decide +kernel
theorem dX10_needGroup_1 : decode cX10_needGroup 1 = .ok (.getfield 19, 3) := by decide +kernel
theorem dX10_needGroup_4 : decode cX10_needGroup 4 = .ok (.getfield 140, 3) := by decide +kernel
theorem dX10_needGroup_7 : decode cX10_needGroup 7 = .ok (.iconst (-1), 1) := by decide +kernel
theorem dX10_needGroup_8 : decode cX10_needGroup 8 = .ok (.if_icmp .ne 11, 3) := by decide +kernel
theorem dX10_needGroup_11 : decode cX10_needGroup 11 = .ok (.new 220, 3) := by decide +kernel
theorem dX10_needGroup_14 : decode cX10_needGroup 14 = .ok (.dup, 1) := by decide +kernel
theorem dX10_needGroup_15 : decode cX10_needGroup 15 = .ok (.invokespecial 222, 3) := by decide +kernel
theorem dX10_needGroup_18 : decode cX10_needGroup 18 = .ok (.athrow, 1) := by decide +kernel
theorem dX10_needGroup_19 : decode cX10_needGroup 19 = .ok (.aload_n 0, 1) := by decide +kernel
theorem dX10_needGroup_20 : decode cX10_needGroup 20 = .ok (.aload_n 0, 1) := by decide +kernel
theorem dX10_needGroup_21 : decode cX10_needGroup 21 = .ok (.getfield 19, 3) := by decide +kernel
theorem dX10_needGroup_24 : decode cX10_needGroup 24 = .ok (.getfield 140, 3) := by decide +kernel
theorem dX10_needGroup_27 : decode cX10_needGroup 27 = .ok (.iload_n 1, 1) := by decide +kernel
theorem dX10_needGroup_28 : decode cX10_needGroup 28 = .ok (.invokevirtual 206, 3) := by decide +kernel
theorem dX10_needGroup_31 : decode cX10_needGroup 31 = .ok (.return_, 1) := by decide +kernel
theorem dX10_group_0 : decode cX10_group 0 = .ok (.aload_n 0, 1) := by decide +kernel
theorem dX10_group_1 : decode cX10_group 1 = .ok (.iload_n 1, 1) := by decide +kernel
theorem dX10_group_2 : decode cX10_group 2 = .ok (.invokevirtual 349, 3) := by decide +kernel
theorem dX10_group_5 : decode cX10_group 5 = .ok (.iload_n 2, 1) := by decide +kernel
theorem dX10_group_6 : decode cX10_group 6 = .ok (.lookupswitch 46 #[(0, 26), (1, 36)], 26) := by decide +kernel
theorem dX10_group_32 : decode cX10_group 32 = .ok (.aload_n 0, 1) := by decide +kernel
theorem dX10_group_33 : decode cX10_group 33 = .ok (.getfield 72, 3) := by decide +kernel
theorem dX10_group_36 : decode cX10_group 36 = .ok (.iload_n 1, 1) := by decide +kernel
theorem dX10_group_37 : decode cX10_group 37 = .ok (.iconst 0, 1) := by decide +kernel
theorem dX10_group_38 : decode cX10_group 38 = .ok (.invokevirtual 352, 3) := by decide +kernel
theorem dX10_group_41 : decode cX10_group 41 = .ok (.ireturn, 1) := by decide +kernel
theorem dX10_group_42 : decode cX10_group 42 = .ok (.aload_n 0, 1) := by decide +kernel
theorem dX10_group_43 : decode cX10_group 43 = .ok (.getfield 72, 3) := by decide +kernel
theorem dX10_group_46 : decode cX10_group 46 = .ok (.iload_n 1, 1) := by decide +kernel
theorem dX10_group_47 : decode cX10_group 47 = .ok (.iconst 1, 1) := by decide +kernel
theorem dX10_group_48 : decode cX10_group 48 = .ok (.invokevirtual 352, 3) := by decide +kernel
theorem dX10_group_51 : decode cX10_group 51 = .ok (.ireturn, 1) := by decide +kernel
theorem dX10_group_52 : decode cX10_group 52 = .ok (.new 143, 3) := by decide +kernel
theorem dX10_group_55 : decode cX10_group 55 = .ok (.dup, 1) := by decide +kernel
theorem dX10_group_56 : decode cX10_group 56 = .ok (.invokespecial 145, 3) := by decide +kernel
theorem dX10_group_59 : decode cX10_group 59 = .ok (.athrow, 1) := by decide +kernel
theorem dX10_usual_0 : decode cX10_usual 0 = .ok (.aload_n 0, 1) := by decide +kernel
theorem dX10_usual_1 : decode cX10_usual 1 = .ok (.iload_n 2, 1) := by decide +kernel
theorem dX10_usual_2 : decode cX10_usual 2 = .ok (.invokevirtual 128, 3) := by decide +kernel
theorem dX10_usual_5 : decode cX10_usual 5 = .ok (.iload_n 1, 1) := by decide +kernel
theorem dX10_usual_6 : decode cX10_usual 6 = .ok (.iconst (-1), 1) := by decide +kernel
theorem dX10_usual_7 : decode cX10_usual 7 = .ok (.if_icmp .eq 8, 3) := by decide +kernel
theorem dX10_usual_10 : decode cX10_usual 10 = .ok (.aload_n 0, 1) := by decide +kernel
theorem dX10_usual_11 : decode cX10_usual 11 = .ok (.iload_n 1, 1) := by decide +kernel
theorem dX10_usual_12 : decode cX10_usual 12 = .ok (.invokevirtual 349, 3) := by decide +kernel
theorem dX10_usual_15 : decode cX10_usual 15 = .ok (.aload_n 0, 1) := by decide +kernel
theorem dX10_usual_16 : decode cX10_usual 16 = .ok (.getfield 72, 3) := by decide +kernel
theorem dX10_usual_19 : decode cX10_usual 19 = .ok (.iload_n 1, 1) := by decide +kernel
theorem dX10_usual_20 : decode cX10_usual 20 = .ok (.iload_n 2, 1) := by decide +kernel
theorem dX10_usual_21 : decode cX10_usual 21 = .ok (.invokevirtual 356, 3) := by decide +kernel
theorem dX10_usual_24 : decode cX10_usual 24 = .ok (.ireturn, 1) := by decide +kernel
theorem dX10_share_0 : decode cX10_share 0 = .ok (.aload_n 0, 1) := by decide +kernel
theorem dX10_share_1 : decode cX10_share 1 = .ok (.iload_n 1, 1) := by decide +kernel
theorem dX10_share_2 : decode cX10_share 2 = .ok (.invokevirtual 128, 3) := by decide +kernel
theorem dX10_share_5 : decode cX10_share 5 = .ok (.aload_n 0, 1) := by decide +kernel
theorem dX10_share_6 : decode cX10_share 6 = .ok (.iload_n 1, 1) := by decide +kernel
theorem dX10_share_7 : decode cX10_share 7 = .ok (.iload_n 2, 1) := by decide +kernel
theorem dX10_share_8 : decode cX10_share 8 = .ok (.invokevirtual 206, 3) := by decide +kernel
theorem dX10_share_11 : decode cX10_share 11 = .ok (.aload_n 0, 1) := by decide +kernel
theorem dX10_share_12 : decode cX10_share 12 = .ok (.getfield 72, 3) := by decide +kernel
theorem dX10_share_15 : decode cX10_share 15 = .ok (.iload_n 1, 1) := by decide +kernel
theorem dX10_share_16 : decode cX10_share 16 = .ok (.iload_n 2, 1) := by decide +kernel
theorem dX10_share_17 : decode cX10_share 17 = .ok (.invokevirtual 359, 3) := by decide +kernel
theorem dX10_share_20 : decode cX10_share 20 = .ok (.ireturn, 1) := by decide +kernel
theorem dX10_write_0 : decode cX10_write 0 = .ok (.aload_n 0, 1) := by decide +kernel
theorem dX10_write_1 : decode cX10_write 1 = .ok (.iload_n 1, 1) := by decide +kernel
theorem dX10_write_2 : decode cX10_write 2 = .ok (.invokevirtual 197, 3) := by decide +kernel
theorem dX10_write_5 : decode cX10_write 5 = .ok (.aload_n 0, 1) := by decide +kernel
theorem dX10_write_6 : decode cX10_write 6 = .ok (.getfield 56, 3) := by decide +kernel
theorem dX10_write_9 : decode cX10_write 9 = .ok (.iload_n 1, 1) := by decide +kernel
theorem dX10_write_10 : decode cX10_write 10 = .ok (.invokevirtual 200, 3) := by decide +kernel
theorem dX10_write_13 : decode cX10_write 13 = .ok (.istore_n 2, 1) := by decide +kernel
theorem dX10_write_14 : decode cX10_write 14 = .ok (.iconst 0, 1) := by decide +kernel
theorem dX10_write_15 : decode cX10_write 15 = .ok (.istore_n 3, 1) := by decide +kernel
theorem dX10_write_16 : decode cX10_write 16 = .ok (.iload_n 3, 1) := by decide +kernel
theorem dX10_write_17 : decode cX10_write 17 = .ok (.aload_n 0, 1) := by decide +kernel
theorem dX10_write_18 : decode cX10_write 18 = .ok (.getfield 19, 3) := by decide +kernel
theorem dX10_write_21 : decode cX10_write 21 = .ok (.getfield 183, 3) := by decide +kernel
theorem dX10_write_24 : decode cX10_write 24 = .ok (.if_icmp .ge 39, 3) := by decide +kernel
theorem dX10_write_27 : decode cX10_write 27 = .ok (.iload_n 2, 1) := by decide +kernel
theorem dX10_write_28 : decode cX10_write 28 = .ok (.iload_n 3, 1) := by decide +kernel
theorem dX10_write_29 : decode cX10_write 29 = .ok (.invokestatic 203, 3) := by decide +kernel
theorem dX10_write_32 : decode cX10_write 32 = .ok (.istore 4, 2) := by decide +kernel
theorem dX10_write_34 : decode cX10_write 34 = .ok (.aload_n 0, 1) := by decide +kernel
theorem dX10_write_35 : decode cX10_write 35 = .ok (.getfield 80, 3) := by decide +kernel
theorem dX10_write_38 : decode cX10_write 38 = .ok (.iload_n 3, 1) := by decide +kernel
theorem dX10_write_39 : decode cX10_write 39 = .ok (.iload 4, 2) := by decide +kernel
theorem dX10_write_41 : decode cX10_write 41 = .ok (.iconst (-1), 1) := by decide +kernel
theorem dX10_write_42 : decode cX10_write 42 = .ok (.if_icmp .ne 8, 3) := by decide +kernel
theorem dX10_write_45 : decode cX10_write 45 = .ok (.bipush 63, 2) := by decide +kernel
theorem dX10_write_47 : decode cX10_write 47 = .ok (.goto 8, 3) := by decide +kernel
theorem dX10_write_50 : decode cX10_write 50 = .ok (.bipush 48, 2) := by decide +kernel
theorem dX10_write_52 : decode cX10_write 52 = .ok (.iload 4, 2) := by decide +kernel
theorem dX10_write_54 : decode cX10_write 54 = .ok (.iadd, 1) := by decide +kernel
theorem dX10_write_55 : decode cX10_write 55 = .ok (.i2b, 1) := by decide +kernel
theorem dX10_write_56 : decode cX10_write 56 = .ok (.bastore, 1) := by decide +kernel
theorem dX10_write_57 : decode cX10_write 57 = .ok (.iinc 3 1, 3) := by decide +kernel
theorem dX10_write_60 : decode cX10_write 60 = .ok (.goto (-44), 3) := by decide +kernel
theorem dX10_write_63 : decode cX10_write 63 = .ok (.aload_n 0, 1) := by decide +kernel
theorem dX10_write_64 : decode cX10_write 64 = .ok (.aload_n 0, 1) := by decide +kernel
theorem dX10_write_65 : decode cX10_write 65 = .ok (.getfield 19, 3) := by decide +kernel
theorem dX10_write_68 : decode cX10_write 68 = .ok (.getfield 183, 3) := by decide +kernel
theorem dX10_write_71 : decode cX10_write 71 = .ok (.putfield 84, 3) := by decide +kernel
theorem dX10_write_74 : decode cX10_write 74 = .ok (.aload_n 0, 1) := by decide +kernel
theorem dX10_write_75 : decode cX10_write 75 = .ok (.getfield 84, 3) := by decide +kernel
theorem dX10_write_78 : decode cX10_write 78 = .ok (.ireturn, 1) := by decide +kernel
theorem dX10_octet_0 : decode cX10_octet 0 = .ok (.iload_n 1, 1) := by decide +kernel
theorem dX10_octet_1 : decode cX10_octet 1 = .ok (.ifCond .lt 11, 3) := by decide +kernel
theorem dX10_octet_4 : decode cX10_octet 4 = .ok (.iload_n 1, 1) := by decide +kernel
theorem dX10_octet_5 : decode cX10_octet 5 = .ok (.aload_n 0, 1) := by decide +kernel
theorem dX10_octet_6 : decode cX10_octet 6 = .ok (.getfield 84, 3) := by decide +kernel
theorem dX10_octet_9 : decode cX10_octet 9 = .ok (.if_icmp .lt 7, 3) := by decide +kernel
theorem dX10_octet_12 : decode cX10_octet 12 = .ok (.iconst (-1), 1) := by decide +kernel
theorem dX10_octet_13 : decode cX10_octet 13 = .ok (.goto 9, 3) := by decide +kernel
theorem dX10_octet_16 : decode cX10_octet 16 = .ok (.aload_n 0, 1) := by decide +kernel
theorem dX10_octet_17 : decode cX10_octet 17 = .ok (.getfield 80, 3) := by decide +kernel
theorem dX10_octet_20 : decode cX10_octet 20 = .ok (.iload_n 1, 1) := by decide +kernel
theorem dX10_octet_21 : decode cX10_octet 21 = .ok (.baload, 1) := by decide +kernel
theorem dX10_octet_22 : decode cX10_octet 22 = .ok (.ireturn, 1) := by decide +kernel
theorem dX10_count_0 : decode cX10_count 0 = .ok (.iload_n 1, 1) := by decide +kernel
theorem dX10_count_1 : decode cX10_count 1 = .ok (.tableswitch 151 0 10 #[59, 67, 75, 83, 91, 99, 107, 115, 123, 128, 143], 59) := by decide +kernel
theorem dX10_count_60 : decode cX10_count 60 = .ok (.aload_n 0, 1) := by decide +kernel
theorem dX10_count_61 : decode cX10_count 61 = .ok (.getfield 19, 3) := by decide +kernel
theorem dX10_count_64 : decode cX10_count 64 = .ok (.getfield 183, 3) := by decide +kernel
theorem dX10_count_67 : decode cX10_count 67 = .ok (.ireturn, 1) := by decide +kernel
theorem dX10_count_68 : decode cX10_count 68 = .ok (.aload_n 0, 1) := by decide +kernel
theorem dX10_count_69 : decode cX10_count 69 = .ok (.getfield 19, 3) := by decide +kernel
theorem dX10_count_72 : decode cX10_count 72 = .ok (.getfield 362, 3) := by decide +kernel
theorem dX10_count_75 : decode cX10_count 75 = .ok (.ireturn, 1) := by decide +kernel
theorem dX10_count_76 : decode cX10_count 76 = .ok (.aload_n 0, 1) := by decide +kernel
theorem dX10_count_77 : decode cX10_count 77 = .ok (.getfield 56, 3) := by decide +kernel
theorem dX10_count_80 : decode cX10_count 80 = .ok (.getfield 125, 3) := by decide +kernel
theorem dX10_count_83 : decode cX10_count 83 = .ok (.ireturn, 1) := by decide +kernel
theorem dX10_count_84 : decode cX10_count 84 = .ok (.aload_n 0, 1) := by decide +kernel
theorem dX10_count_85 : decode cX10_count 85 = .ok (.getfield 72, 3) := by decide +kernel
theorem dX10_count_88 : decode cX10_count 88 = .ok (.invokevirtual 304, 3) := by decide +kernel
theorem dX10_count_91 : decode cX10_count 91 = .ok (.ireturn, 1) := by decide +kernel
theorem dX10_count_92 : decode cX10_count 92 = .ok (.aload_n 0, 1) := by decide +kernel
theorem dX10_count_93 : decode cX10_count 93 = .ok (.getfield 72, 3) := by decide +kernel
theorem dX10_count_96 : decode cX10_count 96 = .ok (.invokevirtual 365, 3) := by decide +kernel
theorem dX10_count_99 : decode cX10_count 99 = .ok (.ireturn, 1) := by decide +kernel
theorem dX10_count_100 : decode cX10_count 100 = .ok (.aload_n 0, 1) := by decide +kernel
theorem dX10_count_101 : decode cX10_count 101 = .ok (.getfield 56, 3) := by decide +kernel
theorem dX10_count_104 : decode cX10_count 104 = .ok (.getfield 313, 3) := by decide +kernel
theorem dX10_count_107 : decode cX10_count 107 = .ok (.ireturn, 1) := by decide +kernel
theorem dX10_count_108 : decode cX10_count 108 = .ok (.aload_n 0, 1) := by decide +kernel
theorem dX10_count_109 : decode cX10_count 109 = .ok (.getfield 19, 3) := by decide +kernel
theorem dX10_count_112 : decode cX10_count 112 = .ok (.getfield 140, 3) := by decide +kernel
theorem dX10_count_115 : decode cX10_count 115 = .ok (.ireturn, 1) := by decide +kernel
theorem dX10_count_116 : decode cX10_count 116 = .ok (.aload_n 0, 1) := by decide +kernel
theorem dX10_count_117 : decode cX10_count 117 = .ok (.getfield 19, 3) := by decide +kernel
theorem dX10_count_120 : decode cX10_count 120 = .ok (.invokevirtual 368, 3) := by decide +kernel
theorem dX10_count_123 : decode cX10_count 123 = .ok (.ireturn, 1) := by decide +kernel
theorem dX10_count_124 : decode cX10_count 124 = .ok (.aload_n 0, 1) := by decide +kernel
theorem dX10_count_125 : decode cX10_count 125 = .ok (.getfield 84, 3) := by decide +kernel
theorem dX10_count_128 : decode cX10_count 128 = .ok (.ireturn, 1) := by decide +kernel
theorem dX10_count_129 : decode cX10_count 129 = .ok (.aload_n 0, 1) := by decide +kernel
theorem dX10_count_130 : decode cX10_count 130 = .ok (.getfield 19, 3) := by decide +kernel
theorem dX10_count_133 : decode cX10_count 133 = .ok (.aload_n 0, 1) := by decide +kernel
theorem dX10_count_134 : decode cX10_count 134 = .ok (.getfield 19, 3) := by decide +kernel
theorem dX10_count_137 : decode cX10_count 137 = .ok (.invokevirtual 370, 3) := by decide +kernel
theorem dX10_count_140 : decode cX10_count 140 = .ok (.invokevirtual 307, 3) := by decide +kernel
theorem dX10_count_143 : decode cX10_count 143 = .ok (.ireturn, 1) := by decide +kernel
theorem dX10_count_144 : decode cX10_count 144 = .ok (.aload_n 0, 1) := by decide +kernel
theorem dX10_count_145 : decode cX10_count 145 = .ok (.getfield 72, 3) := by decide +kernel
theorem dX10_count_148 : decode cX10_count 148 = .ok (.invokevirtual 373, 3) := by decide +kernel
theorem dX10_count_151 : decode cX10_count 151 = .ok (.ireturn, 1) := by decide +kernel
theorem dX10_count_152 : decode cX10_count 152 = .ok (.iconst (-1), 1) := by decide +kernel
theorem dX10_count_153 : decode cX10_count 153 = .ok (.ireturn, 1) := by decide +kernel
noncomputable def nX10_feed (a1 : Int32) (a2 : Int32) (a3 : Int32) (a4 : Int32) (a5 : Int32) (g : zS) : Option (Int32 × zS) :=
  (nX9_hasRoom (20 : Int32) g).bind fun v1 => if v1 = 0 then (some (((-1 : Int32), g))) else ((nX9_put a1 g).bind fun v2 => (nX9_put a2 v2).bind fun v3 => (nX9_put a3 v3).bind fun v4 => (nX9_put a4 v4).bind fun v5 => (nX9_put a5 v5).bind fun v6 => some (((v6.1 1 1), v6)))
set_option maxHeartbeats 60000 in
theorem tX10_feed {l : Launch} (hl0 : l.flags = flags0) (a1 : Int32) (a2 : Int32) (a3 : Int32) (a4 : Int32) (a5 : Int32) (g : zS) {r : (Int32 × zS)} (h : nX10_feed a1 a2 a3 a4 a5 g = some r) : zC l yX10_feed cX10_feed 6 ((Option.some Jvm.ClassFile.FieldType.int)) 1 0 0 [.ref 0, .int a1, .int a2, .int a3, .int a4, .int a5] zD g (.inl (some (.int r.1)), zD, r.2) := by
  refine zC_of hl0 rfl (Nat.le_of_ble_eq_true rfl) (fun x hG hxl hk _ => ?_)
  subst hxl
  show zK x 1 0 [(0, .ref 0), (1, .int a1), (2, .int a2), (3, .int a3), (4, .int a4), (5, .int a5)] [] zD g 0 0
  unfold nX10_feed at h
  refine z_aload_n (pc := 0) hG 0 rfl rfl dX10_feed_0 ?_
  refine z_getr (pc := 1) hG zc_X10 inX10 DL_0 0 rfl (by decide) rfl w279 dX10_feed_1 ?_
  refine z_bipush (pc := 4) hG kb_20 dX10_feed_4 ?_
  replace h := zbind h
  obtain ⟨v1, hv1, h⟩ := h
  refine z_cvI (pc := 6) (A' := 0) (B' := 0) hG [.int (20 : Int32)] [] zc_X9 DL_1 (tX9_hasRoom hl0 (20 : Int32) g hv1) zy_X9_hasRoom ⟨w324, w325⟩ w323 dX10_feed_6 rfl (Nat.le_of_ble_eq_true rfl) rfl rfl rfl (Nat.le_of_ble_eq_true rfl) rfl ?_
  refine z_if_ne (pc := 9) (tgt := 14) hG dX10_feed_9 rfl (fun hc => ?_) (fun hc => ?_)
  · replace h := zif_f hc h
    refine z_aload_n (pc := 14) hG 0 rfl rfl dX10_feed_14 ?_
    refine z_getr (pc := 15) hG zc_X10 inX10 DL_0 0 rfl (by decide) rfl w279 dX10_feed_15 ?_
    refine z_iload_n (pc := 18) hG 1 rfl rfl dX10_feed_18 ?_
    replace h := zbind h
    obtain ⟨v2, hv2, h⟩ := h
    refine z_cvV (pc := 19) (A' := 0) (B' := 0) hG [.int a1] [] zc_X9 DL_1 (tX9_put hl0 a1 g hv2) zy_X9_put ⟨w328, w329⟩ w327 dX10_feed_19 rfl (Nat.le_of_ble_eq_true rfl) rfl rfl rfl (Nat.le_of_ble_eq_true rfl) rfl ?_
    refine z_aload_n (pc := 22) hG 0 rfl rfl dX10_feed_22 ?_
    refine z_getr (pc := 23) hG zc_X10 inX10 DL_0 0 rfl (by decide) rfl w279 dX10_feed_23 ?_
    refine z_iload_n (pc := 26) hG 2 rfl rfl dX10_feed_26 ?_
    replace h := zbind h
    obtain ⟨v3, hv3, h⟩ := h
    refine z_cvV (pc := 27) (A' := 0) (B' := 0) hG [.int a2] [] zc_X9 DL_1 (tX9_put hl0 a2 v2 hv3) zy_X9_put ⟨w328, w329⟩ w327 dX10_feed_27 rfl (Nat.le_of_ble_eq_true rfl) rfl rfl rfl (Nat.le_of_ble_eq_true rfl) rfl ?_
    refine z_aload_n (pc := 30) hG 0 rfl rfl dX10_feed_30 ?_
    refine z_getr (pc := 31) hG zc_X10 inX10 DL_0 0 rfl (by decide) rfl w279 dX10_feed_31 ?_
    refine z_iload_n (pc := 34) hG 3 rfl rfl dX10_feed_34 ?_
    replace h := zbind h
    obtain ⟨v4, hv4, h⟩ := h
    refine z_cvV (pc := 35) (A' := 0) (B' := 0) hG [.int a3] [] zc_X9 DL_1 (tX9_put hl0 a3 v3 hv4) zy_X9_put ⟨w328, w329⟩ w327 dX10_feed_35 rfl (Nat.le_of_ble_eq_true rfl) rfl rfl rfl (Nat.le_of_ble_eq_true rfl) rfl ?_
    refine z_aload_n (pc := 38) hG 0 rfl rfl dX10_feed_38 ?_
    refine z_getr (pc := 39) hG zc_X10 inX10 DL_0 0 rfl (by decide) rfl w279 dX10_feed_39 ?_
    refine z_iload (pc := 42) hG 4 rfl dX10_feed_42 ?_
    replace h := zbind h
    obtain ⟨v5, hv5, h⟩ := h
    refine z_cvV (pc := 44) (A' := 0) (B' := 0) hG [.int a4] [] zc_X9 DL_1 (tX9_put hl0 a4 v4 hv5) zy_X9_put ⟨w328, w329⟩ w327 dX10_feed_44 rfl (Nat.le_of_ble_eq_true rfl) rfl rfl rfl (Nat.le_of_ble_eq_true rfl) rfl ?_
    refine z_aload_n (pc := 47) hG 0 rfl rfl dX10_feed_47 ?_
    refine z_getr (pc := 48) hG zc_X10 inX10 DL_0 0 rfl (by decide) rfl w279 dX10_feed_48 ?_
    refine z_iload (pc := 51) hG 5 rfl dX10_feed_51 ?_
    replace h := zbind h
    obtain ⟨v6, hv6, h⟩ := h
    refine z_cvV (pc := 53) (A' := 0) (B' := 0) hG [.int a5] [] zc_X9 DL_1 (tX9_put hl0 a5 v5 hv6) zy_X9_put ⟨w328, w329⟩ w327 dX10_feed_53 rfl (Nat.le_of_ble_eq_true rfl) rfl rfl rfl (Nat.le_of_ble_eq_true rfl) rfl ?_
    refine z_aload_n (pc := 56) hG 0 rfl rfl dX10_feed_56 ?_
    refine z_getr (pc := 57) hG zc_X10 inX10 DL_0 0 rfl (by decide) rfl w279 dX10_feed_57 ?_
    refine z_geti (pc := 60) hG zc_X9 inX9 DL_1 1 rfl (by decide) rfl w44 dX10_feed_60 ?_
    obtain rfl := Option.some.inj h
    exact z_iret (pc := 63) hG rfl rfl hk dX10_feed_63
  · replace h := zif_t hc h
    refine z_iconst (pc := 12) hG kc_m1 dX10_feed_12 ?_
    obtain rfl := Option.some.inj h
    exact z_iret (pc := 13) hG rfl rfl hk dX10_feed_13
noncomputable def nX10_end (a1 : Int32) (g : zS) : Option (Int32 × zS) :=
  if a1 < 0 then (some (((0 : Int32), g))) else (if a1 ≤ (g.1 1 1) then (some (((1 : Int32), (zi g 1 1 a1)))) else (some (((0 : Int32), g))))
set_option maxHeartbeats 60000 in
theorem tX10_end {l : Launch} (hl0 : l.flags = flags0) (a1 : Int32) (g : zS) {r : (Int32 × zS)} (h : nX10_end a1 g = some r) : zC l yX10_end cX10_end 2 ((Option.some Jvm.ClassFile.FieldType.boolean)) 0 0 0 [.ref 0, .int a1] zD g (.inl (some (.int r.1)), zD, r.2) := by
  refine zC_of hl0 rfl (Nat.le_of_ble_eq_true rfl) (fun x hG hxl hk _ => ?_)
  subst hxl
  show zK x 0 0 [(0, .ref 0), (1, .int a1)] [] zD g 0 0
  unfold nX10_end at h
  refine z_iload_n (pc := 0) hG 1 rfl rfl dX10_end_0 ?_
  refine z_if_lt (pc := 1) (tgt := 15) hG dX10_end_1 rfl (fun hc => ?_) (fun hc => ?_)
  · replace h := zif_t hc h
    refine z_iconst (pc := 15) hG kc_0 dX10_end_15 ?_
    obtain rfl := Option.some.inj h
    exact z_iret (pc := 16) hG rfl rfl hk dX10_end_16
  · replace h := zif_f hc h
    refine z_iload_n (pc := 4) hG 1 rfl rfl dX10_end_4 ?_
    refine z_aload_n (pc := 5) hG 0 rfl rfl dX10_end_5 ?_
    refine z_getr (pc := 6) hG zc_X10 inX10 DL_0 0 rfl (by decide) rfl w279 dX10_end_6 ?_
    refine z_geti (pc := 9) hG zc_X9 inX9 DL_1 1 rfl (by decide) rfl w44 dX10_end_9 ?_
    refine z_icmp_le (pc := 12) (tgt := 17) hG dX10_end_12 rfl (fun hc => ?_) (fun hc => ?_)
    · replace h := zif_t hc h
      refine z_aload_n (pc := 17) hG 0 rfl rfl dX10_end_17 ?_
      refine z_getr (pc := 18) hG zc_X10 inX10 DL_0 0 rfl (by decide) rfl w279 dX10_end_18 ?_
      refine z_iload_n (pc := 21) hG 1 rfl rfl dX10_end_21 ?_
      refine z_puti (pc := 22) hG zc_X9 inX9 tyX9 tyX9_ok nmX9 DL_1 1 rfl (by decide) rfl w44 rfl rfl rfl dX10_end_22 ?_
      refine z_iconst (pc := 25) hG kc_1 dX10_end_25 ?_
      obtain rfl := Option.some.inj h
      exact z_iret (pc := 26) hG rfl rfl hk dX10_end_26
    · replace h := zif_f hc h
      refine z_iconst (pc := 15) hG kc_0 dX10_end_15 ?_
      obtain rfl := Option.some.inj h
      exact z_iret (pc := 16) hG rfl rfl hk dX10_end_16
noncomputable def nX10_read (g : zS) : Option ((Int32 ⊕ String) × zS) :=
  (nX7_readText g).bind fun v1 => (nX7_place v1.2).bind fun v2 => if v1.1 = 0 then (some ((.inr "java/lang/IllegalArgumentException", (zi (zi v1.2 1 1 (0 : Int32)) 0 12 v2)))) else ((nX6_copyFrom_d (zi (zi v1.2 1 1 (0 : Int32)) 0 12 (-1 : Int32))).bind fun v3 => (nX5_prepare v3).bind fun v4 => (nX0_forget v4).bind fun v5 => (nX8_start v5).bind fun v6 => some ((.inl (v6.1 31 1), v6)))
set_option maxHeartbeats 60000 in
theorem tX10_read {l : Launch} (hl0 : l.flags = flags0) (g : zS) {r : ((Int32 ⊕ String) × zS)} (h : nX10_read g = some r) : zC l yX10_read cX10_read 3 ((Option.some Jvm.ClassFile.FieldType.int)) 9 1 6 [.ref 0] zD g (ztI r.1, zD, r.2) := by
  refine zC_of hl0 rfl (Nat.le_of_ble_eq_true rfl) (fun x hG hxl hk _ => ?_)
  subst hxl
  show zK x 9 0 [(0, .ref 0)] [] zD g 1 6
  unfold nX10_read at h
  refine z_aload_n (pc := 0) hG 0 rfl rfl dX10_read_0 ?_
  refine z_getr (pc := 1) hG zc_X10 inX10 DL_0 3 rfl (by decide) rfl w282 dX10_read_1 ?_
  replace h := zbind h
  obtain ⟨v1, hv1, h⟩ := h
  refine z_cvI (pc := 4) (A' := 1) (B' := 6) hG [] [] zc_X7 DL_19 (tX7_readText hl0  g hv1) zy_X7_readText ⟨w561, w562⟩ w560 dX10_read_4 rfl (Nat.le_of_ble_eq_true rfl) rfl rfl rfl (Nat.le_of_ble_eq_true rfl) rfl ?_
  refine z_istore_n (pc := 7) (ls' := [(1, .int v1.1), (0, .ref 0)]) hG [0, 1] rfl (by decide) rfl dX10_read_7 ?_
  refine z_aload_n (pc := 8) hG 1 rfl rfl dX10_read_8 ?_
  refine z_getr (pc := 9) hG zc_X10 inX10 DL_0 3 rfl (by decide) rfl w282 dX10_read_9 ?_
  replace h := zbind h
  obtain ⟨v2, hv2, h⟩ := h
  refine z_cvI (pc := 12) (A' := 1) (B' := 6) hG [] [] zc_X7 DL_19 (tX7_place hl0  v1.2 hv2) zy_X7_place ⟨w710, w711⟩ w709 dX10_read_12 rfl (Nat.le_of_ble_eq_true rfl) rfl rfl rfl (Nat.le_of_ble_eq_true rfl) rfl ?_
  refine z_istore_n (pc := 15) (ls' := [(2, .int v2), (1, .int v1.1), (0, .ref 0)]) hG [0, 1, 2] rfl (by decide) rfl dX10_read_15 ?_
  refine z_aload_n (pc := 16) hG 2 rfl rfl dX10_read_16 ?_
  refine z_getr (pc := 17) hG zc_X10 inX10 DL_0 0 rfl (by decide) rfl w279 dX10_read_17 ?_
  refine z_iconst (pc := 20) hG kc_0 dX10_read_20 ?_
  refine z_puti (pc := 21) hG zc_X9 inX9 tyX9 tyX9_ok nmX9 DL_1 1 rfl (by decide) rfl w44 rfl rfl rfl dX10_read_21 ?_
  refine z_iload_n (pc := 24) hG 1 rfl rfl dX10_read_24 ?_
  refine z_if_ne (pc := 25) (tgt := 41) hG dX10_read_25 rfl (fun hc => ?_) (fun hc => ?_)
  · replace h := zif_f hc h
    refine z_aload_n (pc := 41) hG 2 rfl rfl dX10_read_41 ?_
    refine z_iconst (pc := 42) hG kc_m1 dX10_read_42 ?_
    refine z_puti (pc := 43) hG zc_X10 inX10 tyX10 tyX10_ok nmX10 DL_0 12 rfl (by decide) rfl w291 rfl rfl rfl dX10_read_43 ?_
    refine z_aload_n (pc := 46) hG 2 rfl rfl dX10_read_46 ?_
    refine z_getr (pc := 47) hG zc_X10 inX10 DL_0 1 rfl (by decide) rfl w280 dX10_read_47 ?_
    refine z_aload_n (pc := 50) hG 2 rfl rfl dX10_read_50 ?_
    refine z_getr (pc := 51) hG zc_X10 inX10 DL_0 2 rfl (by decide) rfl w281 dX10_read_51 ?_
    replace h := zbind h
    obtain ⟨v3, hv3, h⟩ := h
    refine z_cvV (pc := 54) (A' := 1) (B' := 6) hG [.ref 11] [] zc_X6 DL_3 (tX6_copyFrom_d hl0  (zi (zi v1.2 1 1 (0 : Int32)) 0 12 (-1 : Int32)) hv3) zy_X6_copyFrom ⟨w778, w779⟩ w777 dX10_read_54 rfl (Nat.le_of_ble_eq_true rfl) rfl rfl rfl (Nat.le_of_ble_eq_true rfl) rfl ?_
    refine z_aload_n (pc := 57) hG 2 rfl rfl dX10_read_57 ?_
    refine z_getr (pc := 58) hG zc_X10 inX10 DL_0 4 rfl (by decide) rfl w283 dX10_read_58 ?_
    replace h := zbind h
    obtain ⟨v4, hv4, h⟩ := h
    refine z_cvV (pc := 61) (A' := 1) (B' := 6) hG [] [] zc_X5 DL_20 (tX5_prepare hl0  v3 hv4) zy_X5_prepare ⟨w783, w784⟩ w782 dX10_read_61 rfl (Nat.le_of_ble_eq_true rfl) rfl rfl rfl (Nat.le_of_ble_eq_true rfl) rfl ?_
    refine z_aload_n (pc := 64) hG 2 rfl rfl dX10_read_64 ?_
    refine z_getr (pc := 65) hG zc_X10 inX10 DL_0 5 rfl (by decide) rfl w284 dX10_read_65 ?_
    replace h := zbind h
    obtain ⟨v5, hv5, h⟩ := h
    refine z_cvV (pc := 68) (A' := 1) (B' := 6) hG [] [] zc_X0 DL_26 (tX0_forget hl0  v4 hv5) zy_X0_forget ⟨w817, w818⟩ w816 dX10_read_68 rfl (Nat.le_of_ble_eq_true rfl) rfl rfl rfl (Nat.le_of_ble_eq_true rfl) rfl ?_
    refine z_aload_n (pc := 71) hG 2 rfl rfl dX10_read_71 ?_
    refine z_getr (pc := 72) hG zc_X10 inX10 DL_0 6 rfl (by decide) rfl w285 dX10_read_72 ?_
    refine z_aload_n (pc := 75) hG 2 rfl rfl dX10_read_75 ?_
    refine z_getr (pc := 76) hG zc_X10 inX10 DL_0 1 rfl (by decide) rfl w280 dX10_read_76 ?_
    replace h := zbind h
    obtain ⟨v6, hv6, h⟩ := h
    refine z_cvV (pc := 79) (A' := 1) (B' := 6) hG [.ref 3] [] zc_X8 DL_31 (tX8_start hl0  v5 hv6) zy_X8_start ⟨w821, w822⟩ w820 dX10_read_79 rfl (Nat.le_of_ble_eq_true rfl) rfl rfl rfl (Nat.le_of_ble_eq_true rfl) rfl ?_
    refine z_aload_n (pc := 82) hG 2 rfl rfl dX10_read_82 ?_
    refine z_getr (pc := 83) hG zc_X10 inX10 DL_0 6 rfl (by decide) rfl w285 dX10_read_83 ?_
    refine z_geti (pc := 86) hG zc_X8 inX8 DL_31 1 rfl (by decide) rfl w219 dX10_read_86 ?_
    obtain rfl := Option.some.inj h
    exact z_iret (pc := 89) hG rfl rfl hk dX10_read_89
  · replace h := zif_t hc h
    refine z_aload_n (pc := 28) hG 2 rfl rfl dX10_read_28 ?_
    refine z_iload_n (pc := 29) hG 0 rfl rfl dX10_read_29 ?_
    refine z_puti (pc := 30) hG zc_X10 inX10 tyX10 tyX10_ok nmX10 DL_0 12 rfl (by decide) rfl w291 rfl rfl rfl dX10_read_30 ?_
    obtain rfl := Option.some.inj h
    exact z_throw (pc := 33) hG (by decide) (by decide) w713 w19 hatRX10_112 hbdRX10_112 hgdRX10_112 (by decide) (Nat.le_of_ble_eq_true rfl) (Nat.le_of_ble_eq_true rfl) (Nat.le_of_ble_eq_true rfl) (Nat.le_of_ble_eq_true rfl) dX10_read_33 dX10_read_36 dX10_read_37 dX10_read_40 hk
noncomputable def nX10_fault (g : zS) : Option Int32 :=
  some ((g.1 0 12))
set_option maxHeartbeats 60000 in
theorem tX10_fault {l : Launch} (hl0 : l.flags = flags0) (g : zS) {r : Int32} (h : nX10_fault g = some r) : zC l yX10_fault cX10_fault 1 ((Option.some Jvm.ClassFile.FieldType.int)) 0 0 0 [.ref 0] zD g (.inl (some (.int r)), zD, g) := by
  refine zC_of hl0 rfl (Nat.le_of_ble_eq_true rfl) (fun x hG hxl hk _ => ?_)
  subst hxl
  show zK x 0 0 [(0, .ref 0)] [] zD g 0 0
  unfold nX10_fault at h
  refine z_aload_n (pc := 0) hG 0 rfl rfl dX10_fault_0 ?_
  refine z_geti (pc := 1) hG zc_X10 inX10 DL_0 12 rfl (by decide) rfl w291 dX10_fault_1 ?_
  obtain rfl := Option.some.inj h
  exact z_iret (pc := 4) hG rfl rfl hk dX10_fault_4
noncomputable def jX10_needField_15 (g : zS) : Option (Unit ⊕ String) :=
  some (.inr "java/lang/IndexOutOfBoundsException")
noncomputable def nX10_needField (a1 : Int32) (g : zS) : Option (Unit ⊕ String) :=
  if a1 < 0 then (jX10_needField_15 g) else (if a1 < (g.1 3 0) then (some (.inl ())) else (jX10_needField_15 g))
set_option maxHeartbeats 60000 in
theorem kjX10_needField_15 {x : zXx} (hG : zG x cX10_needField 2 RX10 ((Option.none : Option Jvm.ClassFile.FieldType))) (hl0 : (zl0 x).flags = flags0) (g : zS) {o : (Unit ⊕ String)} (h : jX10_needField_15 g = some o) (hk : ztg x = (ztV o, zD, g)) : zK x 8 15 [] [] zD g 1 6 := by
  unfold jX10_needField_15 at h
  obtain rfl := Option.some.inj h
  exact z_throw (pc := 15) hG (by decide) (by decide) w837 w24 hatRX10_378 hbdRX10_378 hgdRX10_378 (by decide) (Nat.le_of_ble_eq_true rfl) (Nat.le_of_ble_eq_true rfl) (Nat.le_of_ble_eq_true rfl) (Nat.le_of_ble_eq_true rfl) dX10_needField_15 dX10_needField_18 dX10_needField_19 dX10_needField_22 hk
set_option maxHeartbeats 60000 in
theorem tX10_needField {l : Launch} (hl0 : l.flags = flags0) (a1 : Int32) (g : zS) {r : (Unit ⊕ String)} (h : nX10_needField a1 g = some r) : zC l yX10_needField cX10_needField 2 ((Option.none : Option Jvm.ClassFile.FieldType)) 8 1 6 [.ref 0, .int a1] zD g (ztV r, zD, g) := by
  refine zC_of hl0 rfl (Nat.le_of_ble_eq_true rfl) (fun x hG hxl hk _ => ?_)
  subst hxl
  show zK x 8 0 [(0, .ref 0), (1, .int a1)] [] zD g 1 6
  unfold nX10_needField at h
  refine z_iload_n (pc := 0) hG 1 rfl rfl dX10_needField_0 ?_
  refine z_if_lt (pc := 1) (tgt := 15) hG dX10_needField_1 rfl (fun hc => ?_) (fun hc => ?_)
  · replace h := zif_t hc h
    refine z_sub (ls' := []) [] rfl ?_
    exact kjX10_needField_15 hG hl0 g h hk
  · replace h := zif_f hc h
    refine z_iload_n (pc := 4) hG 1 rfl rfl dX10_needField_4 ?_
    refine z_aload_n (pc := 5) hG 0 rfl rfl dX10_needField_5 ?_
    refine z_getr (pc := 6) hG zc_X10 inX10 DL_0 1 rfl (by decide) rfl w280 dX10_needField_6 ?_
    refine z_geti (pc := 9) hG zc_X6 inX6 DL_3 0 rfl (by decide) rfl w63 dX10_needField_9 ?_
    refine z_icmp_lt (pc := 12) (tgt := 23) hG dX10_needField_12 rfl (fun hc => ?_) (fun hc => ?_)
    · replace h := zif_t hc h
      obtain rfl := Option.some.inj h
      exact z_vret (pc := 23) hG rfl hk dX10_needField_23
    · replace h := zif_f hc h
      refine z_sub (ls' := []) [] rfl ?_
      exact kjX10_needField_15 hG hl0 g h hk
noncomputable def nX10_field (a1 : Int32) (a2 : Int32) (g : zS) : Option (Int32 ⊕ String) :=
  (nX10_needField a1 g).bind fun v1 => zel v1 (fun w1 => if a2 = 0 then (zchk (zin a1 5) (some (.inl (g.1 4 a1.toNatClampNeg)))) else (if a2 = 1 then (zchk (zin a1 5) (some (.inl (g.1 5 a1.toNatClampNeg)))) else (if a2 = 2 then (zchk (zin a1 5) (some (.inl (g.1 6 a1.toNatClampNeg)))) else (if a2 = 3 then (if (g.1 3 6) = a1 then (some (.inl (1 : Int32))) else (some (.inl (0 : Int32)))) else (some (.inr "java/util/NoSuchElementException")))))) (fun e => some (.inr e))
set_option maxHeartbeats 60000 in
theorem tX10_field {l : Launch} (hl0 : l.flags = flags0) (a1 : Int32) (a2 : Int32) (g : zS) {r : (Int32 ⊕ String)} (h : nX10_field a1 a2 g = some r) : zC l yX10_field cX10_field 3 ((Option.some Jvm.ClassFile.FieldType.int)) 9 2 12 [.ref 0, .int a1, .int a2] zD g (ztI r, zD, g) := by
  refine zC_of hl0 rfl (Nat.le_of_ble_eq_true rfl) (fun x hG hxl hk _ => ?_)
  subst hxl
  show zK x 9 0 [(0, .ref 0), (1, .int a1), (2, .int a2)] [] zD g 2 12
  unfold nX10_field at h
  refine z_aload_n (pc := 0) hG 0 rfl rfl dX10_field_0 ?_
  refine z_iload_n (pc := 1) hG 1 rfl rfl dX10_field_1 ?_
  replace h := zbind h
  obtain ⟨w1 | e, hv1, h⟩ := h
  rotate_left
  · replace h := zel_r h
    obtain rfl := Option.some.inj h
    exact z_cvX (pc := 2) hG [.int a1] [] zc_X10 DL_0 (tX10_needField hl0 a1 g hv1) zy_X10_needField ⟨w835, wp35⟩ w833 dX10_field_2 rfl (Nat.le_of_ble_eq_true rfl) (Nat.le_of_ble_eq_true rfl) (Nat.le_of_ble_eq_true rfl) (Nat.le_of_ble_eq_true rfl) rfl hk
  replace h := zel_l h
  refine z_cvV (pc := 2) (A' := 1) (B' := 6) hG [.int a1] [] zc_X10 DL_0 (tX10_needField hl0 a1 g hv1) zy_X10_needField ⟨w835, wp35⟩ w833 dX10_field_2 rfl (Nat.le_of_ble_eq_true rfl) rfl rfl rfl (Nat.le_of_ble_eq_true rfl) rfl ?_
  refine z_iload_n (pc := 5) hG 2 rfl rfl dX10_field_5 ?_
  by_cases hc0 : a2 = 0
  · replace h := zif_t hc0 h
    refine z_tabIn (pc := 6) (tgt := 36) hG dX10_field_6 (by rw [hc0]; decide) (by rw [hc0]; decide) (by rw [hc0]; rfl) rfl ?_
    refine z_aload_n (pc := 36) hG 0 rfl rfl dX10_field_36 ?_
    refine z_getr (pc := 37) hG zc_X10 inX10 DL_0 1 rfl (by decide) rfl w280 dX10_field_37 ?_
    refine z_getr (pc := 40) hG zc_X6 inX6 DL_3 1 rfl (by decide) rfl w68 dX10_field_40 ?_
    refine z_iload_n (pc := 43) hG 1 rfl rfl dX10_field_43 ?_
    replace h := zchk_some h
    obtain ⟨hc, h⟩ := h
    refine z_iald (pc := 44) hG DL_4 (zin_in hc) dX10_field_44 ?_
    obtain rfl := Option.some.inj h
    exact z_iret (pc := 45) hG rfl rfl hk dX10_field_45
  replace h := zif_f hc0 h
  by_cases hc1 : a2 = 1
  · replace h := zif_t hc1 h
    refine z_tabIn (pc := 6) (tgt := 46) hG dX10_field_6 (by rw [hc1]; decide) (by rw [hc1]; decide) (by rw [hc1]; rfl) rfl ?_
    refine z_aload_n (pc := 46) hG 0 rfl rfl dX10_field_46 ?_
    refine z_getr (pc := 47) hG zc_X10 inX10 DL_0 1 rfl (by decide) rfl w280 dX10_field_47 ?_
    refine z_getr (pc := 50) hG zc_X6 inX6 DL_3 2 rfl (by decide) rfl w72 dX10_field_50 ?_
    refine z_iload_n (pc := 53) hG 1 rfl rfl dX10_field_53 ?_
    replace h := zchk_some h
    obtain ⟨hc, h⟩ := h
    refine z_iald (pc := 54) hG DL_5 (zin_in hc) dX10_field_54 ?_
    obtain rfl := Option.some.inj h
    exact z_iret (pc := 55) hG rfl rfl hk dX10_field_55
  replace h := zif_f hc1 h
  by_cases hc2 : a2 = 2
  · replace h := zif_t hc2 h
    refine z_tabIn (pc := 6) (tgt := 56) hG dX10_field_6 (by rw [hc2]; decide) (by rw [hc2]; decide) (by rw [hc2]; rfl) rfl ?_
    refine z_aload_n (pc := 56) hG 0 rfl rfl dX10_field_56 ?_
    refine z_getr (pc := 57) hG zc_X10 inX10 DL_0 1 rfl (by decide) rfl w280 dX10_field_57 ?_
    refine z_getr (pc := 60) hG zc_X6 inX6 DL_3 3 rfl (by decide) rfl w76 dX10_field_60 ?_
    refine z_iload_n (pc := 63) hG 1 rfl rfl dX10_field_63 ?_
    replace h := zchk_some h
    obtain ⟨hc, h⟩ := h
    refine z_iald (pc := 64) hG DL_6 (zin_in hc) dX10_field_64 ?_
    obtain rfl := Option.some.inj h
    exact z_iret (pc := 65) hG rfl rfl hk dX10_field_65
  replace h := zif_f hc2 h
  by_cases hc3 : a2 = 3
  · replace h := zif_t hc3 h
    refine z_tabIn (pc := 6) (tgt := 66) hG dX10_field_6 (by rw [hc3]; decide) (by rw [hc3]; decide) (by rw [hc3]; rfl) rfl ?_
    refine z_aload_n (pc := 66) hG 0 rfl rfl dX10_field_66 ?_
    refine z_getr (pc := 67) hG zc_X10 inX10 DL_0 1 rfl (by decide) rfl w280 dX10_field_67 ?_
    refine z_geti (pc := 70) hG zc_X6 inX6 DL_3 6 rfl (by decide) rfl w85 dX10_field_70 ?_
    refine z_iload_n (pc := 73) hG 1 rfl rfl dX10_field_73 ?_
    refine z_icmp_ne (pc := 74) (tgt := 81) hG dX10_field_74 rfl (fun hc => ?_) (fun hc => ?_)
    · replace h := zif_f hc h
      refine z_iconst (pc := 81) hG kc_0 dX10_field_81 ?_
      obtain rfl := Option.some.inj h
      exact z_iret (pc := 82) hG rfl rfl hk dX10_field_82
    · replace h := zif_t hc h
      refine z_iconst (pc := 77) hG kc_1 dX10_field_77 ?_
      refine z_goto (pc := 78) (tgt := 82) hG dX10_field_78 rfl ?_
      obtain rfl := Option.some.inj h
      exact z_iret (pc := 82) hG rfl rfl hk dX10_field_82
  replace h := zif_f hc3 h
  refine z_tabOut (pc := 6) (tgt := 83) hG dX10_field_6 (ztab_out (n := 3) (fun k hk => by
    match k, hk with
    | 0, _ => exact hc0
    | 1, _ => exact hc1
    | 2, _ => exact hc2
    | 3, _ => exact hc3
    | k + 4, hk => omega)) rfl ?_
  obtain rfl := Option.some.inj h
  exact z_throw (pc := 83) hG (by decide) (by decide) w852 w25 hatRX10_145 hbdRX10_145 hgdRX10_145 (by decide) (Nat.le_of_ble_eq_true rfl) (Nat.le_of_ble_eq_true rfl) (Nat.le_of_ble_eq_true rfl) (Nat.le_of_ble_eq_true rfl) dX10_field_83 dX10_field_86 dX10_field_87 dX10_field_90 hk
noncomputable def nX10_name (a1 : Int32) (a2 : Int32) (g : zS) : Option (Int32 ⊕ String) :=
  (nX10_needField a1 g).bind fun v1 => zel v1 (fun w1 => (nX6_letter a1 a2 g).bind fun v2 => some (.inl v2)) (fun e => some (.inr e))
set_option maxHeartbeats 60000 in
theorem tX10_name {l : Launch} (hl0 : l.flags = flags0) (a1 : Int32) (a2 : Int32) (g : zS) {r : (Int32 ⊕ String)} (h : nX10_name a1 a2 g = some r) : zC l yX10_name cX10_name 3 ((Option.some Jvm.ClassFile.FieldType.int)) 9 1 6 [.ref 0, .int a1, .int a2] zD g (ztI r, zD, g) := by
  refine zC_of hl0 rfl (Nat.le_of_ble_eq_true rfl) (fun x hG hxl hk _ => ?_)
  subst hxl
  show zK x 9 0 [(0, .ref 0), (1, .int a1), (2, .int a2)] [] zD g 1 6
  unfold nX10_name at h
  refine z_aload_n (pc := 0) hG 0 rfl rfl dX10_name_0 ?_
  refine z_iload_n (pc := 1) hG 1 rfl rfl dX10_name_1 ?_
  replace h := zbind h
  obtain ⟨w1 | e, hv1, h⟩ := h
  rotate_left
  · replace h := zel_r h
    obtain rfl := Option.some.inj h
    exact z_cvX (pc := 2) hG [.int a1] [] zc_X10 DL_0 (tX10_needField hl0 a1 g hv1) zy_X10_needField ⟨w835, wp35⟩ w833 dX10_name_2 rfl (Nat.le_of_ble_eq_true rfl) (Nat.le_of_ble_eq_true rfl) (Nat.le_of_ble_eq_true rfl) (Nat.le_of_ble_eq_true rfl) rfl hk
  replace h := zel_l h
  refine z_cvV (pc := 2) (A' := 0) (B' := 0) hG [.int a1] [] zc_X10 DL_0 (tX10_needField hl0 a1 g hv1) zy_X10_needField ⟨w835, wp35⟩ w833 dX10_name_2 rfl (Nat.le_of_ble_eq_true rfl) rfl rfl rfl (Nat.le_of_ble_eq_true rfl) rfl ?_
  refine z_aload_n (pc := 5) hG 0 rfl rfl dX10_name_5 ?_
  refine z_getr (pc := 6) hG zc_X10 inX10 DL_0 1 rfl (by decide) rfl w280 dX10_name_6 ?_
  refine z_iload_n (pc := 9) hG 1 rfl rfl dX10_name_9 ?_
  refine z_iload_n (pc := 10) hG 2 rfl rfl dX10_name_10 ?_
  replace h := zbind h
  obtain ⟨v2, hv2, h⟩ := h
  refine z_cvI (pc := 11) (A' := 0) (B' := 0) hG [.int a1, .int a2] [] zc_X6 DL_3 (tX6_letter hl0 a1 a2 g hv2) zy_X6_letter ⟨w667, w668⟩ w874 dX10_name_11 rfl (Nat.le_of_ble_eq_true rfl) rfl rfl rfl (Nat.le_of_ble_eq_true rfl) rfl ?_
  obtain rfl := Option.some.inj h
  exact z_iret (pc := 14) hG rfl rfl hk dX10_name_14
noncomputable def jX10_needEdit_15 (g : zS) : Option (Unit ⊕ String) :=
  some (.inr "java/lang/IndexOutOfBoundsException")
noncomputable def nX10_needEdit (a1 : Int32) (g : zS) : Option (Unit ⊕ String) :=
  if a1 < 0 then (jX10_needEdit_15 g) else (if a1 < (g.1 3 7) then (some (.inl ())) else (jX10_needEdit_15 g))
set_option maxHeartbeats 60000 in
theorem kjX10_needEdit_15 {x : zXx} (hG : zG x cX10_needEdit 2 RX10 ((Option.none : Option Jvm.ClassFile.FieldType))) (hl0 : (zl0 x).flags = flags0) (g : zS) {o : (Unit ⊕ String)} (h : jX10_needEdit_15 g = some o) (hk : ztg x = (ztV o, zD, g)) : zK x 8 15 [] [] zD g 1 6 := by
  unfold jX10_needEdit_15 at h
  obtain rfl := Option.some.inj h
  exact z_throw (pc := 15) hG (by decide) (by decide) w837 w24 hatRX10_378 hbdRX10_378 hgdRX10_378 (by decide) (Nat.le_of_ble_eq_true rfl) (Nat.le_of_ble_eq_true rfl) (Nat.le_of_ble_eq_true rfl) (Nat.le_of_ble_eq_true rfl) dX10_needEdit_15 dX10_needEdit_18 dX10_needEdit_19 dX10_needEdit_22 hk
set_option maxHeartbeats 60000 in
theorem tX10_needEdit {l : Launch} (hl0 : l.flags = flags0) (a1 : Int32) (g : zS) {r : (Unit ⊕ String)} (h : nX10_needEdit a1 g = some r) : zC l yX10_needEdit cX10_needEdit 2 ((Option.none : Option Jvm.ClassFile.FieldType)) 8 1 6 [.ref 0, .int a1] zD g (ztV r, zD, g) := by
  refine zC_of hl0 rfl (Nat.le_of_ble_eq_true rfl) (fun x hG hxl hk _ => ?_)
  subst hxl
  show zK x 8 0 [(0, .ref 0), (1, .int a1)] [] zD g 1 6
  unfold nX10_needEdit at h
  refine z_iload_n (pc := 0) hG 1 rfl rfl dX10_needEdit_0 ?_
  refine z_if_lt (pc := 1) (tgt := 15) hG dX10_needEdit_1 rfl (fun hc => ?_) (fun hc => ?_)
  · replace h := zif_t hc h
    refine z_sub (ls' := []) [] rfl ?_
    exact kjX10_needEdit_15 hG hl0 g h hk
  · replace h := zif_f hc h
    refine z_iload_n (pc := 4) hG 1 rfl rfl dX10_needEdit_4 ?_
    refine z_aload_n (pc := 5) hG 0 rfl rfl dX10_needEdit_5 ?_
    refine z_getr (pc := 6) hG zc_X10 inX10 DL_0 1 rfl (by decide) rfl w280 dX10_needEdit_6 ?_
    refine z_geti (pc := 9) hG zc_X6 inX6 DL_3 7 rfl (by decide) rfl w89 dX10_needEdit_9 ?_
    refine z_icmp_lt (pc := 12) (tgt := 23) hG dX10_needEdit_12 rfl (fun hc => ?_) (fun hc => ?_)
    · replace h := zif_t hc h
      obtain rfl := Option.some.inj h
      exact z_vret (pc := 23) hG rfl hk dX10_needEdit_23
    · replace h := zif_f hc h
      refine z_sub (ls' := []) [] rfl ?_
      exact kjX10_needEdit_15 hG hl0 g h hk
noncomputable def nX10_edit (a1 : Int32) (a2 : Int32) (g : zS) : Option (Int32 ⊕ String) :=
  (nX10_needEdit a1 g).bind fun v1 => zel v1 (fun w1 => (nX10_needField a2 g).bind fun v2 => zel v2 (fun w2 => (nX6_editSet a1 a2 g).bind fun v3 => some (.inl v3)) (fun e => some (.inr e))) (fun e => some (.inr e))
set_option maxHeartbeats 60000 in
theorem tX10_edit {l : Launch} (hl0 : l.flags = flags0) (a1 : Int32) (a2 : Int32) (g : zS) {r : (Int32 ⊕ String)} (h : nX10_edit a1 a2 g = some r) : zC l yX10_edit cX10_edit 3 ((Option.some Jvm.ClassFile.FieldType.int)) 9 2 12 [.ref 0, .int a1, .int a2] zD g (ztI r, zD, g) := by
  refine zC_of hl0 rfl (Nat.le_of_ble_eq_true rfl) (fun x hG hxl hk _ => ?_)
  subst hxl
  show zK x 9 0 [(0, .ref 0), (1, .int a1), (2, .int a2)] [] zD g 2 12
  unfold nX10_edit at h
  refine z_aload_n (pc := 0) hG 0 rfl rfl dX10_edit_0 ?_
  refine z_iload_n (pc := 1) hG 1 rfl rfl dX10_edit_1 ?_
  replace h := zbind h
  obtain ⟨w1 | e, hv1, h⟩ := h
  rotate_left
  · replace h := zel_r h
    obtain rfl := Option.some.inj h
    exact z_cvX (pc := 2) hG [.int a1] [] zc_X10 DL_0 (tX10_needEdit hl0 a1 g hv1) zy_X10_needEdit ⟨w884, wp36⟩ w882 dX10_edit_2 rfl (Nat.le_of_ble_eq_true rfl) (Nat.le_of_ble_eq_true rfl) (Nat.le_of_ble_eq_true rfl) (Nat.le_of_ble_eq_true rfl) rfl hk
  replace h := zel_l h
  refine z_cvV (pc := 2) (A' := 1) (B' := 6) hG [.int a1] [] zc_X10 DL_0 (tX10_needEdit hl0 a1 g hv1) zy_X10_needEdit ⟨w884, wp36⟩ w882 dX10_edit_2 rfl (Nat.le_of_ble_eq_true rfl) rfl rfl rfl (Nat.le_of_ble_eq_true rfl) rfl ?_
  refine z_aload_n (pc := 5) hG 0 rfl rfl dX10_edit_5 ?_
  refine z_iload_n (pc := 6) hG 2 rfl rfl dX10_edit_6 ?_
  replace h := zbind h
  obtain ⟨w2 | e, hv2, h⟩ := h
  rotate_left
  · replace h := zel_r h
    obtain rfl := Option.some.inj h
    exact z_cvX (pc := 7) hG [.int a2] [] zc_X10 DL_0 (tX10_needField hl0 a2 g hv2) zy_X10_needField ⟨w835, wp35⟩ w833 dX10_edit_7 rfl (Nat.le_of_ble_eq_true rfl) (Nat.le_of_ble_eq_true rfl) (Nat.le_of_ble_eq_true rfl) (Nat.le_of_ble_eq_true rfl) rfl hk
  replace h := zel_l h
  refine z_cvV (pc := 7) (A' := 0) (B' := 0) hG [.int a2] [] zc_X10 DL_0 (tX10_needField hl0 a2 g hv2) zy_X10_needField ⟨w835, wp35⟩ w833 dX10_edit_7 rfl (Nat.le_of_ble_eq_true rfl) rfl rfl rfl (Nat.le_of_ble_eq_true rfl) rfl ?_
  refine z_aload_n (pc := 10) hG 0 rfl rfl dX10_edit_10 ?_
  refine z_getr (pc := 11) hG zc_X10 inX10 DL_0 1 rfl (by decide) rfl w280 dX10_edit_11 ?_
  refine z_iload_n (pc := 14) hG 1 rfl rfl dX10_edit_14 ?_
  refine z_iload_n (pc := 15) hG 2 rfl rfl dX10_edit_15 ?_
  replace h := zbind h
  obtain ⟨v3, hv3, h⟩ := h
  refine z_cvI (pc := 16) (A' := 0) (B' := 0) hG [.int a1, .int a2] [] zc_X6 DL_3 (tX6_editSet hl0 a1 a2 g hv3) zy_X6_editSet ⟨w791, w792⟩ w886 dX10_edit_16 rfl (Nat.le_of_ble_eq_true rfl) rfl rfl rfl (Nat.le_of_ble_eq_true rfl) rfl ?_
  obtain rfl := Option.some.inj h
  exact z_iret (pc := 19) hG rfl rfl hk dX10_edit_19
noncomputable def nX10_idle (a1 : Int32) (g : zS) : Option (Int32 ⊕ String) :=
  (nX10_needEdit a1 g).bind fun v1 => zel v1 (fun w1 => (nX5_isIdle a1 g).bind fun v2 => zchk (znb v2) (some (.inl v2))) (fun e => some (.inr e))
set_option maxHeartbeats 60000 in
theorem tX10_idle {l : Launch} (hl0 : l.flags = flags0) (a1 : Int32) (g : zS) {r : (Int32 ⊕ String)} (h : nX10_idle a1 g = some r) : zC l yX10_idle cX10_idle 2 ((Option.some Jvm.ClassFile.FieldType.boolean)) 9 1 6 [.ref 0, .int a1] zD g (ztI r, zD, g) := by
  refine zC_of hl0 rfl (Nat.le_of_ble_eq_true rfl) (fun x hG hxl hk _ => ?_)
  subst hxl
  show zK x 9 0 [(0, .ref 0), (1, .int a1)] [] zD g 1 6
  unfold nX10_idle at h
  refine z_aload_n (pc := 0) hG 0 rfl rfl dX10_idle_0 ?_
  refine z_iload_n (pc := 1) hG 1 rfl rfl dX10_idle_1 ?_
  replace h := zbind h
  obtain ⟨w1 | e, hv1, h⟩ := h
  rotate_left
  · replace h := zel_r h
    obtain rfl := Option.some.inj h
    exact z_cvX (pc := 2) hG [.int a1] [] zc_X10 DL_0 (tX10_needEdit hl0 a1 g hv1) zy_X10_needEdit ⟨w884, wp36⟩ w882 dX10_idle_2 rfl (Nat.le_of_ble_eq_true rfl) (Nat.le_of_ble_eq_true rfl) (Nat.le_of_ble_eq_true rfl) (Nat.le_of_ble_eq_true rfl) rfl hk
  replace h := zel_l h
  refine z_cvV (pc := 2) (A' := 0) (B' := 0) hG [.int a1] [] zc_X10 DL_0 (tX10_needEdit hl0 a1 g hv1) zy_X10_needEdit ⟨w884, wp36⟩ w882 dX10_idle_2 rfl (Nat.le_of_ble_eq_true rfl) rfl rfl rfl (Nat.le_of_ble_eq_true rfl) rfl ?_
  refine z_aload_n (pc := 5) hG 0 rfl rfl dX10_idle_5 ?_
  refine z_getr (pc := 6) hG zc_X10 inX10 DL_0 4 rfl (by decide) rfl w283 dX10_idle_6 ?_
  refine z_iload_n (pc := 9) hG 1 rfl rfl dX10_idle_9 ?_
  replace h := zbind h
  obtain ⟨v2, hv2, h⟩ := h
  refine z_cvI (pc := 10) (A' := 0) (B' := 0) hG [.int a1] [] zc_X5 DL_20 (tX5_isIdle hl0 a1 g hv2) zy_X5_isIdle ⟨w947, w948⟩ w946 dX10_idle_10 rfl (Nat.le_of_ble_eq_true rfl) rfl rfl rfl (Nat.le_of_ble_eq_true rfl) rfl ?_
  replace h := zchk_some h
  obtain ⟨hc, h⟩ := h
  obtain rfl := Option.some.inj h
  exact z_iret (pc := 13) hG rfl (znb_n hc) hk dX10_idle_13
noncomputable def nX10_passing (g : zS) : Option Int32 :=
  some ((g.1 20 6))
set_option maxHeartbeats 60000 in
theorem tX10_passing {l : Launch} (hl0 : l.flags = flags0) (g : zS) {r : Int32} (h : nX10_passing g = some r) : zC l yX10_passing cX10_passing 1 ((Option.some Jvm.ClassFile.FieldType.int)) 0 0 0 [.ref 0] zD g (.inl (some (.int r)), zD, g) := by
  refine zC_of hl0 rfl (Nat.le_of_ble_eq_true rfl) (fun x hG hxl hk _ => ?_)
  subst hxl
  show zK x 0 0 [(0, .ref 0)] [] zD g 0 0
  unfold nX10_passing at h
  refine z_aload_n (pc := 0) hG 0 rfl rfl dX10_passing_0 ?_
  refine z_getr (pc := 1) hG zc_X10 inX10 DL_0 4 rfl (by decide) rfl w283 dX10_passing_1 ?_
  refine z_geti (pc := 4) hG zc_X5 inX5 DL_20 6 rfl (by decide) rfl w158 dX10_passing_4 ?_
  obtain rfl := Option.some.inj h
  exact z_iret (pc := 7) hG rfl rfl hk dX10_passing_7
noncomputable def jX10_tried_28 (g : zS) : Option (Int32 ⊕ String) :=
  some (.inr "java/lang/IllegalArgumentException")
noncomputable def nX10_tried (a1 : Int32) (g : zS) : Option (Int32 ⊕ String) :=
  (nX1_ofDigits a1 (g.1 3 0)).bind fun v1 => if v1 = (-1 : Int32) then (jX10_tried_28 g) else ((nX6_holdsForm v1 g).bind fun v2 => if v2 = 0 then (jX10_tried_28 g) else ((nX5_editsFailed v1 g).bind fun v3 => some (.inl v3)))
set_option maxHeartbeats 60000 in
theorem kjX10_tried_28 {x : zXx} (hG : zG x cX10_tried 3 RX10 ((Option.some Jvm.ClassFile.FieldType.int))) (hl0 : (zl0 x).flags = flags0) (g : zS) {o : (Int32 ⊕ String)} (h : jX10_tried_28 g = some o) (hk : ztg x = (ztI o, zD, g)) : zK x 8 28 [] [] zD g 1 6 := by
  unfold jX10_tried_28 at h
  obtain rfl := Option.some.inj h
  exact z_throw (pc := 28) hG (by decide) (by decide) w713 w19 hatRX10_112 hbdRX10_112 hgdRX10_112 (by decide) (Nat.le_of_ble_eq_true rfl) (Nat.le_of_ble_eq_true rfl) (Nat.le_of_ble_eq_true rfl) (Nat.le_of_ble_eq_true rfl) dX10_tried_28 dX10_tried_31 dX10_tried_32 dX10_tried_35 hk
set_option maxHeartbeats 60000 in
theorem tX10_tried {l : Launch} (hl0 : l.flags = flags0) (a1 : Int32) (g : zS) {r : (Int32 ⊕ String)} (h : nX10_tried a1 g = some r) : zC l yX10_tried cX10_tried 3 ((Option.some Jvm.ClassFile.FieldType.int)) 8 1 6 [.ref 0, .int a1] zD g (ztI r, zD, g) := by
  refine zC_of hl0 rfl (Nat.le_of_ble_eq_true rfl) (fun x hG hxl hk _ => ?_)
  subst hxl
  show zK x 8 0 [(0, .ref 0), (1, .int a1)] [] zD g 1 6
  unfold nX10_tried at h
  refine z_iload_n (pc := 0) hG 1 rfl rfl dX10_tried_0 ?_
  refine z_aload_n (pc := 1) hG 0 rfl rfl dX10_tried_1 ?_
  refine z_getr (pc := 2) hG zc_X10 inX10 DL_0 1 rfl (by decide) rfl w280 dX10_tried_2 ?_
  refine z_geti (pc := 5) hG zc_X6 inX6 DL_3 0 rfl (by decide) rfl w63 dX10_tried_5 ?_
  replace h := zbind h
  obtain ⟨v1, hv1, h⟩ := h
  refine z_csI (pc := 8) (A' := 1) (B' := 6) hG [.int a1, .int (g.1 3 0)] [] (tX1_ofDigits hl0 a1 (g.1 3 0) g hv1) zy_X1_ofDigits w971 w970 dX10_tried_8 rfl (Nat.le_of_ble_eq_true rfl) rfl rfl rfl (Nat.le_of_ble_eq_true rfl) rfl ?_
  refine z_istore_n (pc := 11) (ls' := [(2, .int v1), (0, .ref 0), (1, .int a1)]) hG [0, 1, 2] rfl (by decide) rfl dX10_tried_11 ?_
  refine z_iload_n (pc := 12) hG 0 rfl rfl dX10_tried_12 ?_
  refine z_iconst (pc := 13) hG kc_m1 dX10_tried_13 ?_
  refine z_icmp_eq (pc := 14) (tgt := 28) hG dX10_tried_14 rfl (fun hc => ?_) (fun hc => ?_)
  · replace h := zif_t hc h
    refine z_sub (ls' := []) [] rfl ?_
    exact kjX10_tried_28 hG hl0 g h hk
  · replace h := zif_f hc h
    refine z_aload_n (pc := 17) hG 1 rfl rfl dX10_tried_17 ?_
    refine z_getr (pc := 18) hG zc_X10 inX10 DL_0 1 rfl (by decide) rfl w280 dX10_tried_18 ?_
    refine z_iload_n (pc := 21) hG 0 rfl rfl dX10_tried_21 ?_
    replace h := zbind h
    obtain ⟨v2, hv2, h⟩ := h
    refine z_cvI (pc := 22) (A' := 1) (B' := 6) hG [.int v1] [] zc_X6 DL_3 (tX6_holdsForm hl0 v1 g hv2) zy_X6_holdsForm ⟨w975, w976⟩ w974 dX10_tried_22 rfl (Nat.le_of_ble_eq_true rfl) rfl rfl rfl (Nat.le_of_ble_eq_true rfl) rfl ?_
    refine z_if_ne (pc := 25) (tgt := 36) hG dX10_tried_25 rfl (fun hc => ?_) (fun hc => ?_)
    · replace h := zif_f hc h
      refine z_aload_n (pc := 36) hG 1 rfl rfl dX10_tried_36 ?_
      refine z_getr (pc := 37) hG zc_X10 inX10 DL_0 4 rfl (by decide) rfl w283 dX10_tried_37 ?_
      refine z_iload_n (pc := 40) hG 0 rfl rfl dX10_tried_40 ?_
      replace h := zbind h
      obtain ⟨v3, hv3, h⟩ := h
      refine z_cvI (pc := 41) (A' := 1) (B' := 6) hG [.int v1] [] zc_X5 DL_20 (tX5_editsFailed hl0 v1 g hv3) zy_X5_editsFailed ⟨w470, w471⟩ w979 dX10_tried_41 rfl (Nat.le_of_ble_eq_true rfl) rfl rfl rfl (Nat.le_of_ble_eq_true rfl) rfl ?_
      obtain rfl := Option.some.inj h
      exact z_iret (pc := 44) hG rfl rfl hk dX10_tried_44
    · replace h := zif_t hc h
      refine z_sub (ls' := []) [] rfl ?_
      exact kjX10_tried_28 hG hl0 g h hk
noncomputable def jX10_needRow_15 (g : zS) : Option (Unit ⊕ String) :=
  some (.inr "java/lang/IndexOutOfBoundsException")
noncomputable def nX10_needRow (a1 : Int32) (g : zS) : Option (Unit ⊕ String) :=
  if a1 < 0 then (jX10_needRow_15 g) else (if a1 < (g.1 31 1) then (some (.inl ())) else (jX10_needRow_15 g))
set_option maxHeartbeats 60000 in
theorem kjX10_needRow_15 {x : zXx} (hG : zG x cX10_needRow 2 RX10 ((Option.none : Option Jvm.ClassFile.FieldType))) (hl0 : (zl0 x).flags = flags0) (g : zS) {o : (Unit ⊕ String)} (h : jX10_needRow_15 g = some o) (hk : ztg x = (ztV o, zD, g)) : zK x 8 15 [] [] zD g 1 6 := by
  unfold jX10_needRow_15 at h
  obtain rfl := Option.some.inj h
  exact z_throw (pc := 15) hG (by decide) (by decide) w837 w24 hatRX10_378 hbdRX10_378 hgdRX10_378 (by decide) (Nat.le_of_ble_eq_true rfl) (Nat.le_of_ble_eq_true rfl) (Nat.le_of_ble_eq_true rfl) (Nat.le_of_ble_eq_true rfl) dX10_needRow_15 dX10_needRow_18 dX10_needRow_19 dX10_needRow_22 hk
set_option maxHeartbeats 60000 in
theorem tX10_needRow {l : Launch} (hl0 : l.flags = flags0) (a1 : Int32) (g : zS) {r : (Unit ⊕ String)} (h : nX10_needRow a1 g = some r) : zC l yX10_needRow cX10_needRow 2 ((Option.none : Option Jvm.ClassFile.FieldType)) 8 1 6 [.ref 0, .int a1] zD g (ztV r, zD, g) := by
  refine zC_of hl0 rfl (Nat.le_of_ble_eq_true rfl) (fun x hG hxl hk _ => ?_)
  subst hxl
  show zK x 8 0 [(0, .ref 0), (1, .int a1)] [] zD g 1 6
  unfold nX10_needRow at h
  refine z_iload_n (pc := 0) hG 1 rfl rfl dX10_needRow_0 ?_
  refine z_if_lt (pc := 1) (tgt := 15) hG dX10_needRow_1 rfl (fun hc => ?_) (fun hc => ?_)
  · replace h := zif_t hc h
    refine z_sub (ls' := []) [] rfl ?_
    exact kjX10_needRow_15 hG hl0 g h hk
  · replace h := zif_f hc h
    refine z_iload_n (pc := 4) hG 1 rfl rfl dX10_needRow_4 ?_
    refine z_aload_n (pc := 5) hG 0 rfl rfl dX10_needRow_5 ?_
    refine z_getr (pc := 6) hG zc_X10 inX10 DL_0 6 rfl (by decide) rfl w285 dX10_needRow_6 ?_
    refine z_geti (pc := 9) hG zc_X8 inX8 DL_31 1 rfl (by decide) rfl w219 dX10_needRow_9 ?_
    refine z_icmp_lt (pc := 12) (tgt := 23) hG dX10_needRow_12 rfl (fun hc => ?_) (fun hc => ?_)
    · replace h := zif_t hc h
      obtain rfl := Option.some.inj h
      exact z_vret (pc := 23) hG rfl hk dX10_needRow_23
    · replace h := zif_f hc h
      refine z_sub (ls' := []) [] rfl ?_
      exact kjX10_needRow_15 hG hl0 g h hk
noncomputable def nX10_answer (a1 : Int32) (a2 : Int32) (g : zS) : Option (Int32 ⊕ String) :=
  (nX10_needRow a1 g).bind fun v1 => zel v1 (fun w1 => (nX10_needField a2 g).bind fun v2 => zel v2 (fun w2 => (nX8_codeOf a1 g).bind fun v3 => (nX1_answerAt v3 a2).bind fun v4 => some (.inl v4)) (fun e => some (.inr e))) (fun e => some (.inr e))
set_option maxHeartbeats 60000 in
theorem tX10_answer {l : Launch} (hl0 : l.flags = flags0) (a1 : Int32) (a2 : Int32) (g : zS) {r : (Int32 ⊕ String)} (h : nX10_answer a1 a2 g = some r) : zC l yX10_answer cX10_answer 3 ((Option.some Jvm.ClassFile.FieldType.int)) 9 2 12 [.ref 0, .int a1, .int a2] zD g (ztI r, zD, g) := by
  refine zC_of hl0 rfl (Nat.le_of_ble_eq_true rfl) (fun x hG hxl hk _ => ?_)
  subst hxl
  show zK x 9 0 [(0, .ref 0), (1, .int a1), (2, .int a2)] [] zD g 2 12
  unfold nX10_answer at h
  refine z_aload_n (pc := 0) hG 0 rfl rfl dX10_answer_0 ?_
  refine z_iload_n (pc := 1) hG 1 rfl rfl dX10_answer_1 ?_
  replace h := zbind h
  obtain ⟨w1 | e, hv1, h⟩ := h
  rotate_left
  · replace h := zel_r h
    obtain rfl := Option.some.inj h
    exact z_cvX (pc := 2) hG [.int a1] [] zc_X10 DL_0 (tX10_needRow hl0 a1 g hv1) zy_X10_needRow ⟨w989, wp41⟩ w987 dX10_answer_2 rfl (Nat.le_of_ble_eq_true rfl) (Nat.le_of_ble_eq_true rfl) (Nat.le_of_ble_eq_true rfl) (Nat.le_of_ble_eq_true rfl) rfl hk
  replace h := zel_l h
  refine z_cvV (pc := 2) (A' := 1) (B' := 6) hG [.int a1] [] zc_X10 DL_0 (tX10_needRow hl0 a1 g hv1) zy_X10_needRow ⟨w989, wp41⟩ w987 dX10_answer_2 rfl (Nat.le_of_ble_eq_true rfl) rfl rfl rfl (Nat.le_of_ble_eq_true rfl) rfl ?_
  refine z_aload_n (pc := 5) hG 0 rfl rfl dX10_answer_5 ?_
  refine z_iload_n (pc := 6) hG 2 rfl rfl dX10_answer_6 ?_
  replace h := zbind h
  obtain ⟨w2 | e, hv2, h⟩ := h
  rotate_left
  · replace h := zel_r h
    obtain rfl := Option.some.inj h
    exact z_cvX (pc := 7) hG [.int a2] [] zc_X10 DL_0 (tX10_needField hl0 a2 g hv2) zy_X10_needField ⟨w835, wp35⟩ w833 dX10_answer_7 rfl (Nat.le_of_ble_eq_true rfl) (Nat.le_of_ble_eq_true rfl) (Nat.le_of_ble_eq_true rfl) (Nat.le_of_ble_eq_true rfl) rfl hk
  replace h := zel_l h
  refine z_cvV (pc := 7) (A' := 0) (B' := 0) hG [.int a2] [] zc_X10 DL_0 (tX10_needField hl0 a2 g hv2) zy_X10_needField ⟨w835, wp35⟩ w833 dX10_answer_7 rfl (Nat.le_of_ble_eq_true rfl) rfl rfl rfl (Nat.le_of_ble_eq_true rfl) rfl ?_
  refine z_aload_n (pc := 10) hG 0 rfl rfl dX10_answer_10 ?_
  refine z_getr (pc := 11) hG zc_X10 inX10 DL_0 6 rfl (by decide) rfl w285 dX10_answer_11 ?_
  refine z_iload_n (pc := 14) hG 1 rfl rfl dX10_answer_14 ?_
  replace h := zbind h
  obtain ⟨v3, hv3, h⟩ := h
  refine z_cvI (pc := 15) (A' := 0) (B' := 0) hG [.int a1] [] zc_X8 DL_31 (tX8_codeOf hl0 a1 g hv3) zy_X8_codeOf ⟨w992, w993⟩ w991 dX10_answer_15 rfl (Nat.le_of_ble_eq_true rfl) rfl rfl rfl (Nat.le_of_ble_eq_true rfl) rfl ?_
  refine z_iload_n (pc := 18) hG 2 rfl rfl dX10_answer_18 ?_
  replace h := zbind h
  obtain ⟨v4, hv4, h⟩ := h
  refine z_csI (pc := 19) (A' := 0) (B' := 0) hG [.int v3, .int a2] [] (tX1_answerAt hl0 v3 a2 g hv4) zy_X1_answerAt w435 w995 dX10_answer_19 rfl (Nat.le_of_ble_eq_true rfl) rfl rfl rfl (Nat.le_of_ble_eq_true rfl) rfl ?_
  obtain rfl := Option.some.inj h
  exact z_iret (pc := 22) hG rfl rfl hk dX10_answer_22
noncomputable def jX10_needValue_17 (g : zS) : Option (Unit ⊕ String) :=
  some (.inr "java/lang/IllegalArgumentException")
noncomputable def nX10_needValue (a1 : Int32) (a2 : Int32) (g : zS) : Option (Unit ⊕ String) :=
  if a2 < 0 then (jX10_needValue_17 g) else (zchk (zin a1 5) (if a2 < (g.1 4 a1.toNatClampNeg) then (some (.inl ())) else (jX10_needValue_17 g)))
set_option maxHeartbeats 60000 in
theorem kjX10_needValue_17 {x : zXx} (hG : zG x cX10_needValue 3 RX10 ((Option.none : Option Jvm.ClassFile.FieldType))) (hl0 : (zl0 x).flags = flags0) (g : zS) {o : (Unit ⊕ String)} (h : jX10_needValue_17 g = some o) (hk : ztg x = (ztV o, zD, g)) : zK x 8 17 [] [] zD g 1 6 := by
  unfold jX10_needValue_17 at h
  obtain rfl := Option.some.inj h
  exact z_throw (pc := 17) hG (by decide) (by decide) w713 w19 hatRX10_112 hbdRX10_112 hgdRX10_112 (by decide) (Nat.le_of_ble_eq_true rfl) (Nat.le_of_ble_eq_true rfl) (Nat.le_of_ble_eq_true rfl) (Nat.le_of_ble_eq_true rfl) dX10_needValue_17 dX10_needValue_20 dX10_needValue_21 dX10_needValue_24 hk
set_option maxHeartbeats 60000 in
theorem tX10_needValue {l : Launch} (hl0 : l.flags = flags0) (a1 : Int32) (a2 : Int32) (g : zS) {r : (Unit ⊕ String)} (h : nX10_needValue a1 a2 g = some r) : zC l yX10_needValue cX10_needValue 3 ((Option.none : Option Jvm.ClassFile.FieldType)) 8 1 6 [.ref 0, .int a1, .int a2] zD g (ztV r, zD, g) := by
  refine zC_of hl0 rfl (Nat.le_of_ble_eq_true rfl) (fun x hG hxl hk _ => ?_)
  subst hxl
  show zK x 8 0 [(0, .ref 0), (1, .int a1), (2, .int a2)] [] zD g 1 6
  unfold nX10_needValue at h
  refine z_iload_n (pc := 0) hG 2 rfl rfl dX10_needValue_0 ?_
  refine z_if_lt (pc := 1) (tgt := 17) hG dX10_needValue_1 rfl (fun hc => ?_) (fun hc => ?_)
  · replace h := zif_t hc h
    refine z_sub (ls' := []) [] rfl ?_
    exact kjX10_needValue_17 hG hl0 g h hk
  · replace h := zif_f hc h
    refine z_iload_n (pc := 4) hG 2 rfl rfl dX10_needValue_4 ?_
    refine z_aload_n (pc := 5) hG 0 rfl rfl dX10_needValue_5 ?_
    refine z_getr (pc := 6) hG zc_X10 inX10 DL_0 1 rfl (by decide) rfl w280 dX10_needValue_6 ?_
    refine z_getr (pc := 9) hG zc_X6 inX6 DL_3 1 rfl (by decide) rfl w68 dX10_needValue_9 ?_
    refine z_iload_n (pc := 12) hG 1 rfl rfl dX10_needValue_12 ?_
    replace h := zchk_some h
    obtain ⟨hc, h⟩ := h
    refine z_iald (pc := 13) hG DL_4 (zin_in hc) dX10_needValue_13 ?_
    refine z_icmp_lt (pc := 14) (tgt := 25) hG dX10_needValue_14 rfl (fun hc => ?_) (fun hc => ?_)
    · replace h := zif_t hc h
      obtain rfl := Option.some.inj h
      exact z_vret (pc := 25) hG rfl hk dX10_needValue_25
    · replace h := zif_f hc h
      refine z_sub (ls' := []) [] rfl ?_
      exact kjX10_needValue_17 hG hl0 g h hk
noncomputable def jX10_tell_21 (a1 : Int32) (a2 : Int32) (a3 : Int32) (g : zS) : Option ((Int32 ⊕ String) × zS) :=
  (nX8_codeOf a1 g).bind fun v3 => (nX8_remember g).bind fun v4 => (nX1_withAnswer v3 a2 a3).bind fun v5 => zchk (zin a1 40) ((nX1_answerAt v3 a2).bind fun v6 => some ((.inl v6, (zi v4 32 a1.toNatClampNeg v5))))
noncomputable def nX10_tell (a1 : Int32) (a2 : Int32) (a3 : Int32) (g : zS) : Option ((Int32 ⊕ String) × zS) :=
  (nX10_needRow a1 g).bind fun v1 => zel v1 (fun w1 => (nX10_needField a2 g).bind fun v2 => zel v2 (fun w2 => if a3 = (-1 : Int32) then (jX10_tell_21 a1 a2 a3 g) else ((nX10_needValue a2 a3 g).bind fun v7 => zel v7 (fun w7 => jX10_tell_21 a1 a2 a3 g) (fun e => some ((.inr e, g))))) (fun e => some ((.inr e, g)))) (fun e => some ((.inr e, g)))
set_option maxHeartbeats 60000 in
theorem kjX10_tell_21 {x : zXx} (hG : zG x cX10_tell 5 RX10 ((Option.some Jvm.ClassFile.FieldType.int))) (hl0 : (zl0 x).flags = flags0) (a1 : Int32) (a2 : Int32) (a3 : Int32) (g : zS) {o : ((Int32 ⊕ String) × zS)} (h : jX10_tell_21 a1 a2 a3 g = some o) (hk : ztg x = (ztI o.1, zD, o.2)) : zK x 9 21 [(0, .ref 0), (1, .int a1), (2, .int a2), (3, .int a3)] [] zD g 0 0 := by
  unfold jX10_tell_21 at h
  refine z_aload_n (pc := 21) hG 0 rfl rfl dX10_tell_21 ?_
  refine z_getr (pc := 22) hG zc_X10 inX10 DL_0 6 rfl (by decide) rfl w285 dX10_tell_22 ?_
  refine z_iload_n (pc := 25) hG 1 rfl rfl dX10_tell_25 ?_
  replace h := zbind h
  obtain ⟨v3, hv3, h⟩ := h
  refine z_cvI (pc := 26) (A' := 0) (B' := 0) hG [.int a1] [] zc_X8 DL_31 (tX8_codeOf hl0 a1 g hv3) zy_X8_codeOf ⟨w992, w993⟩ w991 dX10_tell_26 rfl (Nat.le_of_ble_eq_true rfl) rfl rfl rfl (Nat.le_of_ble_eq_true rfl) rfl ?_
  refine z_istore (pc := 29) (ls' := [(4, .int v3), (0, .ref 0), (1, .int a1), (2, .int a2), (3, .int a3)]) hG [0, 1, 2, 3, 4] (by decide) rfl dX10_tell_29 ?_
  refine z_aload_n (pc := 31) hG 1 rfl rfl dX10_tell_31 ?_
  refine z_getr (pc := 32) hG zc_X10 inX10 DL_0 6 rfl (by decide) rfl w285 dX10_tell_32 ?_
  replace h := zbind h
  obtain ⟨v4, hv4, h⟩ := h
  refine z_cvV (pc := 35) (A' := 0) (B' := 0) hG [] [] zc_X8 DL_31 (tX8_remember hl0  g hv4) zy_X8_remember ⟨w1008, w1009⟩ w1007 dX10_tell_35 rfl (Nat.le_of_ble_eq_true rfl) rfl rfl rfl (Nat.le_of_ble_eq_true rfl) rfl ?_
  refine z_aload_n (pc := 38) hG 1 rfl rfl dX10_tell_38 ?_
  refine z_getr (pc := 39) hG zc_X10 inX10 DL_0 6 rfl (by decide) rfl w285 dX10_tell_39 ?_
  refine z_getr (pc := 42) hG zc_X8 inX8 DL_31 0 rfl (by decide) rfl w215 dX10_tell_42 ?_
  refine z_iload_n (pc := 45) hG 2 rfl rfl dX10_tell_45 ?_
  refine z_iload (pc := 46) hG 0 rfl dX10_tell_46 ?_
  refine z_iload_n (pc := 48) hG 3 rfl rfl dX10_tell_48 ?_
  refine z_iload_n (pc := 49) hG 4 rfl rfl dX10_tell_49 ?_
  replace h := zbind h
  obtain ⟨v5, hv5, h⟩ := h
  refine z_csI (pc := 50) (A' := 0) (B' := 0) hG [.int v3, .int a2, .int a3] [.int a1, .ref 32] (tX1_withAnswer hl0 v3 a2 a3 v4 hv5) zy_X1_withAnswer w707 w1011 dX10_tell_50 rfl (Nat.le_of_ble_eq_true rfl) rfl rfl rfl (Nat.le_of_ble_eq_true rfl) rfl ?_
  replace h := zchk_some h
  obtain ⟨hc, h⟩ := h
  refine z_iast (pc := 53) hG DL_32 (zin_in hc) dX10_tell_53 ?_
  refine z_iload (pc := 54) hG 0 rfl dX10_tell_54 ?_
  refine z_iload_n (pc := 56) hG 3 rfl rfl dX10_tell_56 ?_
  replace h := zbind h
  obtain ⟨v6, hv6, h⟩ := h
  refine z_csI (pc := 57) (A' := 0) (B' := 0) hG [.int v3, .int a2] [] (tX1_answerAt hl0 v3 a2 (zi v4 32 a1.toNatClampNeg v5) hv6) zy_X1_answerAt w435 w995 dX10_tell_57 rfl (Nat.le_of_ble_eq_true rfl) rfl rfl rfl (Nat.le_of_ble_eq_true rfl) rfl ?_
  obtain rfl := Option.some.inj h
  exact z_iret (pc := 60) hG rfl rfl hk dX10_tell_60
set_option maxHeartbeats 60000 in
theorem tX10_tell {l : Launch} (hl0 : l.flags = flags0) (a1 : Int32) (a2 : Int32) (a3 : Int32) (g : zS) {r : ((Int32 ⊕ String) × zS)} (h : nX10_tell a1 a2 a3 g = some r) : zC l yX10_tell cX10_tell 5 ((Option.some Jvm.ClassFile.FieldType.int)) 9 3 18 [.ref 0, .int a1, .int a2, .int a3] zD g (ztI r.1, zD, r.2) := by
  refine zC_of hl0 rfl (Nat.le_of_ble_eq_true rfl) (fun x hG hxl hk _ => ?_)
  subst hxl
  show zK x 9 0 [(0, .ref 0), (1, .int a1), (2, .int a2), (3, .int a3)] [] zD g 3 18
  unfold nX10_tell at h
  refine z_aload_n (pc := 0) hG 0 rfl rfl dX10_tell_0 ?_
  refine z_iload_n (pc := 1) hG 1 rfl rfl dX10_tell_1 ?_
  replace h := zbind h
  obtain ⟨w1 | e, hv1, h⟩ := h
  rotate_left
  · replace h := zel_r h
    obtain rfl := Option.some.inj h
    exact z_cvX (pc := 2) hG [.int a1] [] zc_X10 DL_0 (tX10_needRow hl0 a1 g hv1) zy_X10_needRow ⟨w989, wp41⟩ w987 dX10_tell_2 rfl (Nat.le_of_ble_eq_true rfl) (Nat.le_of_ble_eq_true rfl) (Nat.le_of_ble_eq_true rfl) (Nat.le_of_ble_eq_true rfl) rfl hk
  replace h := zel_l h
  refine z_cvV (pc := 2) (A' := 2) (B' := 12) hG [.int a1] [] zc_X10 DL_0 (tX10_needRow hl0 a1 g hv1) zy_X10_needRow ⟨w989, wp41⟩ w987 dX10_tell_2 rfl (Nat.le_of_ble_eq_true rfl) rfl rfl rfl (Nat.le_of_ble_eq_true rfl) rfl ?_
  refine z_aload_n (pc := 5) hG 0 rfl rfl dX10_tell_5 ?_
  refine z_iload_n (pc := 6) hG 2 rfl rfl dX10_tell_6 ?_
  replace h := zbind h
  obtain ⟨w2 | e, hv2, h⟩ := h
  rotate_left
  · replace h := zel_r h
    obtain rfl := Option.some.inj h
    exact z_cvX (pc := 7) hG [.int a2] [] zc_X10 DL_0 (tX10_needField hl0 a2 g hv2) zy_X10_needField ⟨w835, wp35⟩ w833 dX10_tell_7 rfl (Nat.le_of_ble_eq_true rfl) (Nat.le_of_ble_eq_true rfl) (Nat.le_of_ble_eq_true rfl) (Nat.le_of_ble_eq_true rfl) rfl hk
  replace h := zel_l h
  refine z_cvV (pc := 7) (A' := 1) (B' := 6) hG [.int a2] [] zc_X10 DL_0 (tX10_needField hl0 a2 g hv2) zy_X10_needField ⟨w835, wp35⟩ w833 dX10_tell_7 rfl (Nat.le_of_ble_eq_true rfl) rfl rfl rfl (Nat.le_of_ble_eq_true rfl) rfl ?_
  refine z_iload_n (pc := 10) hG 3 rfl rfl dX10_tell_10 ?_
  refine z_iconst (pc := 11) hG kc_m1 dX10_tell_11 ?_
  refine z_icmp_eq (pc := 12) (tgt := 21) hG dX10_tell_12 rfl (fun hc => ?_) (fun hc => ?_)
  · replace h := zif_t hc h
    refine z_wk (A' := 0) (B' := 0) (by decide) (by decide) ?_
    exact kjX10_tell_21 hG hl0 a1 a2 a3 g h hk
  · replace h := zif_f hc h
    refine z_aload_n (pc := 15) hG 0 rfl rfl dX10_tell_15 ?_
    refine z_iload_n (pc := 16) hG 2 rfl rfl dX10_tell_16 ?_
    refine z_iload_n (pc := 17) hG 3 rfl rfl dX10_tell_17 ?_
    replace h := zbind h
    obtain ⟨w7 | e, hv7, h⟩ := h
    rotate_left
    · replace h := zel_r h
      obtain rfl := Option.some.inj h
      exact z_cvX (pc := 18) hG [.int a2, .int a3] [] zc_X10 DL_0 (tX10_needValue hl0 a2 a3 g hv7) zy_X10_needValue ⟨w1005, wp42⟩ w1003 dX10_tell_18 rfl (Nat.le_of_ble_eq_true rfl) (Nat.le_of_ble_eq_true rfl) (Nat.le_of_ble_eq_true rfl) (Nat.le_of_ble_eq_true rfl) rfl hk
    replace h := zel_l h
    refine z_cvV (pc := 18) (A' := 0) (B' := 0) hG [.int a2, .int a3] [] zc_X10 DL_0 (tX10_needValue hl0 a2 a3 g hv7) zy_X10_needValue ⟨w1005, wp42⟩ w1003 dX10_tell_18 rfl (Nat.le_of_ble_eq_true rfl) rfl rfl rfl (Nat.le_of_ble_eq_true rfl) rfl ?_
    exact kjX10_tell_21 hG hl0 a1 a2 a3 g h hk
noncomputable def nX10_copy (a1 : Int32) (g : zS) : Option ((Int32 ⊕ String) × zS) :=
  (nX10_needRow a1 g).bind fun v1 => zel v1 (fun w1 => if (g.1 31 1) < (40 : Int32) then ((nX8_remember g).bind fun v2 => (nX8_codeOf a1 v2).bind fun v3 => zchk (zin (v2.1 31 1) 40) (some ((.inl (((zi (zi v2 32 (v2.1 31 1).toNatClampNeg v3) 31 1 (((zi v2 32 (v2.1 31 1).toNatClampNeg v3).1 31 1) + (1 : Int32))).1 31 1) - (1 : Int32)), (zi (zi v2 32 (v2.1 31 1).toNatClampNeg v3) 31 1 (((zi v2 32 (v2.1 31 1).toNatClampNeg v3).1 31 1) + (1 : Int32))))))) else (some ((.inr "java/lang/IllegalStateException", g)))) (fun e => some ((.inr e, g)))
set_option maxHeartbeats 60000 in
theorem tX10_copy {l : Launch} (hl0 : l.flags = flags0) (a1 : Int32) (g : zS) {r : ((Int32 ⊕ String) × zS)} (h : nX10_copy a1 g = some r) : zC l yX10_copy cX10_copy 2 ((Option.some Jvm.ClassFile.FieldType.int)) 9 2 12 [.ref 0, .int a1] zD g (ztI r.1, zD, r.2) := by
  refine zC_of hl0 rfl (Nat.le_of_ble_eq_true rfl) (fun x hG hxl hk _ => ?_)
  subst hxl
  show zK x 9 0 [(0, .ref 0), (1, .int a1)] [] zD g 2 12
  unfold nX10_copy at h
  refine z_aload_n (pc := 0) hG 0 rfl rfl dX10_copy_0 ?_
  refine z_iload_n (pc := 1) hG 1 rfl rfl dX10_copy_1 ?_
  replace h := zbind h
  obtain ⟨w1 | e, hv1, h⟩ := h
  rotate_left
  · replace h := zel_r h
    obtain rfl := Option.some.inj h
    exact z_cvX (pc := 2) hG [.int a1] [] zc_X10 DL_0 (tX10_needRow hl0 a1 g hv1) zy_X10_needRow ⟨w989, wp41⟩ w987 dX10_copy_2 rfl (Nat.le_of_ble_eq_true rfl) (Nat.le_of_ble_eq_true rfl) (Nat.le_of_ble_eq_true rfl) (Nat.le_of_ble_eq_true rfl) rfl hk
  replace h := zel_l h
  refine z_cvV (pc := 2) (A' := 1) (B' := 6) hG [.int a1] [] zc_X10 DL_0 (tX10_needRow hl0 a1 g hv1) zy_X10_needRow ⟨w989, wp41⟩ w987 dX10_copy_2 rfl (Nat.le_of_ble_eq_true rfl) rfl rfl rfl (Nat.le_of_ble_eq_true rfl) rfl ?_
  refine z_aload_n (pc := 5) hG 0 rfl rfl dX10_copy_5 ?_
  refine z_getr (pc := 6) hG zc_X10 inX10 DL_0 6 rfl (by decide) rfl w285 dX10_copy_6 ?_
  refine z_geti (pc := 9) hG zc_X8 inX8 DL_31 1 rfl (by decide) rfl w219 dX10_copy_9 ?_
  refine z_bipush (pc := 12) hG kb_40 dX10_copy_12 ?_
  refine z_icmp_lt (pc := 14) (tgt := 25) hG dX10_copy_14 rfl (fun hc => ?_) (fun hc => ?_)
  · replace h := zif_t hc h
    refine z_aload_n (pc := 25) hG 0 rfl rfl dX10_copy_25 ?_
    refine z_getr (pc := 26) hG zc_X10 inX10 DL_0 6 rfl (by decide) rfl w285 dX10_copy_26 ?_
    replace h := zbind h
    obtain ⟨v2, hv2, h⟩ := h
    refine z_cvV (pc := 29) (A' := 1) (B' := 6) hG [] [] zc_X8 DL_31 (tX8_remember hl0  g hv2) zy_X8_remember ⟨w1008, w1009⟩ w1007 dX10_copy_29 rfl (Nat.le_of_ble_eq_true rfl) rfl rfl rfl (Nat.le_of_ble_eq_true rfl) rfl ?_
    refine z_aload_n (pc := 32) hG 0 rfl rfl dX10_copy_32 ?_
    refine z_getr (pc := 33) hG zc_X10 inX10 DL_0 6 rfl (by decide) rfl w285 dX10_copy_33 ?_
    refine z_getr (pc := 36) hG zc_X8 inX8 DL_31 0 rfl (by decide) rfl w215 dX10_copy_36 ?_
    refine z_aload_n (pc := 39) hG 0 rfl rfl dX10_copy_39 ?_
    refine z_getr (pc := 40) hG zc_X10 inX10 DL_0 6 rfl (by decide) rfl w285 dX10_copy_40 ?_
    refine z_geti (pc := 43) hG zc_X8 inX8 DL_31 1 rfl (by decide) rfl w219 dX10_copy_43 ?_
    refine z_aload_n (pc := 46) hG 0 rfl rfl dX10_copy_46 ?_
    refine z_getr (pc := 47) hG zc_X10 inX10 DL_0 6 rfl (by decide) rfl w285 dX10_copy_47 ?_
    refine z_iload_n (pc := 50) hG 1 rfl rfl dX10_copy_50 ?_
    replace h := zbind h
    obtain ⟨v3, hv3, h⟩ := h
    refine z_cvI (pc := 51) (A' := 1) (B' := 6) hG [.int a1] [.int (v2.1 31 1), .ref 32] zc_X8 DL_31 (tX8_codeOf hl0 a1 v2 hv3) zy_X8_codeOf ⟨w992, w993⟩ w991 dX10_copy_51 rfl (Nat.le_of_ble_eq_true rfl) rfl rfl rfl (Nat.le_of_ble_eq_true rfl) rfl ?_
    replace h := zchk_some h
    obtain ⟨hc, h⟩ := h
    refine z_iast (pc := 54) hG DL_32 (zin_in hc) dX10_copy_54 ?_
    refine z_aload_n (pc := 55) hG 0 rfl rfl dX10_copy_55 ?_
    refine z_getr (pc := 56) hG zc_X10 inX10 DL_0 6 rfl (by decide) rfl w285 dX10_copy_56 ?_
    refine z_dup (pc := 59) hG rfl dX10_copy_59 ?_
    refine z_geti (pc := 60) hG zc_X8 inX8 DL_31 1 rfl (by decide) rfl w219 dX10_copy_60 ?_
    refine z_iconst (pc := 63) hG kc_1 dX10_copy_63 ?_
    refine z_iadd (pc := 64) hG dX10_copy_64 ?_
    refine z_puti (pc := 65) hG zc_X8 inX8 tyX8 tyX8_ok nmX8 DL_31 1 rfl (by decide) rfl w219 rfl rfl rfl dX10_copy_65 ?_
    refine z_aload_n (pc := 68) hG 0 rfl rfl dX10_copy_68 ?_
    refine z_getr (pc := 69) hG zc_X10 inX10 DL_0 6 rfl (by decide) rfl w285 dX10_copy_69 ?_
    refine z_geti (pc := 72) hG zc_X8 inX8 DL_31 1 rfl (by decide) rfl w219 dX10_copy_72 ?_
    refine z_iconst (pc := 75) hG kc_1 dX10_copy_75 ?_
    refine z_isub (pc := 76) hG dX10_copy_76 ?_
    obtain rfl := Option.some.inj h
    exact z_iret (pc := 77) hG rfl rfl hk dX10_copy_77
  · replace h := zif_f hc h
    obtain rfl := Option.some.inj h
    exact z_throw (pc := 17) hG (by decide) (by decide) w1020 w27 hatRX10_222 hbdRX10_222 hgdRX10_222 (by decide) (Nat.le_of_ble_eq_true rfl) (Nat.le_of_ble_eq_true rfl) (Nat.le_of_ble_eq_true rfl) (Nat.le_of_ble_eq_true rfl) dX10_copy_17 dX10_copy_20 dX10_copy_21 dX10_copy_24 hk
noncomputable def nX10_drop (g : zS) : Option ((Int32 ⊕ String) × zS) :=
  if (g.1 31 1) = 0 then (some ((.inr "java/lang/IllegalStateException", g))) else ((nX8_remember g).bind fun v1 => some ((.inl ((zi v1 31 1 ((v1.1 31 1) - (1 : Int32))).1 31 1), (zi v1 31 1 ((v1.1 31 1) - (1 : Int32))))))
set_option maxHeartbeats 60000 in
theorem tX10_drop {l : Launch} (hl0 : l.flags = flags0) (g : zS) {r : ((Int32 ⊕ String) × zS)} (h : nX10_drop g = some r) : zC l yX10_drop cX10_drop 1 ((Option.some Jvm.ClassFile.FieldType.int)) 8 1 6 [.ref 0] zD g (ztI r.1, zD, r.2) := by
  refine zC_of hl0 rfl (Nat.le_of_ble_eq_true rfl) (fun x hG hxl hk _ => ?_)
  subst hxl
  show zK x 8 0 [(0, .ref 0)] [] zD g 1 6
  unfold nX10_drop at h
  refine z_aload_n (pc := 0) hG 0 rfl rfl dX10_drop_0 ?_
  refine z_getr (pc := 1) hG zc_X10 inX10 DL_0 6 rfl (by decide) rfl w285 dX10_drop_1 ?_
  refine z_geti (pc := 4) hG zc_X8 inX8 DL_31 1 rfl (by decide) rfl w219 dX10_drop_4 ?_
  refine z_if_ne (pc := 7) (tgt := 18) hG dX10_drop_7 rfl (fun hc => ?_) (fun hc => ?_)
  · replace h := zif_f hc h
    refine z_aload_n (pc := 18) hG 0 rfl rfl dX10_drop_18 ?_
    refine z_getr (pc := 19) hG zc_X10 inX10 DL_0 6 rfl (by decide) rfl w285 dX10_drop_19 ?_
    replace h := zbind h
    obtain ⟨v1, hv1, h⟩ := h
    refine z_cvV (pc := 22) (A' := 1) (B' := 6) hG [] [] zc_X8 DL_31 (tX8_remember hl0  g hv1) zy_X8_remember ⟨w1008, w1009⟩ w1007 dX10_drop_22 rfl (Nat.le_of_ble_eq_true rfl) rfl rfl rfl (Nat.le_of_ble_eq_true rfl) rfl ?_
    refine z_aload_n (pc := 25) hG 0 rfl rfl dX10_drop_25 ?_
    refine z_getr (pc := 26) hG zc_X10 inX10 DL_0 6 rfl (by decide) rfl w285 dX10_drop_26 ?_
    refine z_dup (pc := 29) hG rfl dX10_drop_29 ?_
    refine z_geti (pc := 30) hG zc_X8 inX8 DL_31 1 rfl (by decide) rfl w219 dX10_drop_30 ?_
    refine z_iconst (pc := 33) hG kc_1 dX10_drop_33 ?_
    refine z_isub (pc := 34) hG dX10_drop_34 ?_
    refine z_puti (pc := 35) hG zc_X8 inX8 tyX8 tyX8_ok nmX8 DL_31 1 rfl (by decide) rfl w219 rfl rfl rfl dX10_drop_35 ?_
    refine z_aload_n (pc := 38) hG 0 rfl rfl dX10_drop_38 ?_
    refine z_getr (pc := 39) hG zc_X10 inX10 DL_0 6 rfl (by decide) rfl w285 dX10_drop_39 ?_
    refine z_geti (pc := 42) hG zc_X8 inX8 DL_31 1 rfl (by decide) rfl w219 dX10_drop_42 ?_
    obtain rfl := Option.some.inj h
    exact z_iret (pc := 45) hG rfl rfl hk dX10_drop_45
  · replace h := zif_t hc h
    obtain rfl := Option.some.inj h
    exact z_throw (pc := 10) hG (by decide) (by decide) w1020 w27 hatRX10_222 hbdRX10_222 hgdRX10_222 (by decide) (Nat.le_of_ble_eq_true rfl) (Nat.le_of_ble_eq_true rfl) (Nat.le_of_ble_eq_true rfl) (Nat.le_of_ble_eq_true rfl) dX10_drop_10 dX10_drop_13 dX10_drop_14 dX10_drop_17 hk
noncomputable def nX10_fails (a1 : Int32) (g : zS) : Option (Int32 ⊕ String) :=
  (nX10_needRow a1 g).bind fun v1 => zel v1 (fun w1 => (nX8_codeOf a1 g).bind fun v2 => (nX5_editsFailed v2 g).bind fun v3 => some (.inl v3)) (fun e => some (.inr e))
set_option maxHeartbeats 60000 in
theorem tX10_fails {l : Launch} (hl0 : l.flags = flags0) (a1 : Int32) (g : zS) {r : (Int32 ⊕ String)} (h : nX10_fails a1 g = some r) : zC l yX10_fails cX10_fails 2 ((Option.some Jvm.ClassFile.FieldType.int)) 9 1 6 [.ref 0, .int a1] zD g (ztI r, zD, g) := by
  refine zC_of hl0 rfl (Nat.le_of_ble_eq_true rfl) (fun x hG hxl hk _ => ?_)
  subst hxl
  show zK x 9 0 [(0, .ref 0), (1, .int a1)] [] zD g 1 6
  unfold nX10_fails at h
  refine z_aload_n (pc := 0) hG 0 rfl rfl dX10_fails_0 ?_
  refine z_iload_n (pc := 1) hG 1 rfl rfl dX10_fails_1 ?_
  replace h := zbind h
  obtain ⟨w1 | e, hv1, h⟩ := h
  rotate_left
  · replace h := zel_r h
    obtain rfl := Option.some.inj h
    exact z_cvX (pc := 2) hG [.int a1] [] zc_X10 DL_0 (tX10_needRow hl0 a1 g hv1) zy_X10_needRow ⟨w989, wp41⟩ w987 dX10_fails_2 rfl (Nat.le_of_ble_eq_true rfl) (Nat.le_of_ble_eq_true rfl) (Nat.le_of_ble_eq_true rfl) (Nat.le_of_ble_eq_true rfl) rfl hk
  replace h := zel_l h
  refine z_cvV (pc := 2) (A' := 0) (B' := 0) hG [.int a1] [] zc_X10 DL_0 (tX10_needRow hl0 a1 g hv1) zy_X10_needRow ⟨w989, wp41⟩ w987 dX10_fails_2 rfl (Nat.le_of_ble_eq_true rfl) rfl rfl rfl (Nat.le_of_ble_eq_true rfl) rfl ?_
  refine z_aload_n (pc := 5) hG 0 rfl rfl dX10_fails_5 ?_
  refine z_getr (pc := 6) hG zc_X10 inX10 DL_0 4 rfl (by decide) rfl w283 dX10_fails_6 ?_
  refine z_aload_n (pc := 9) hG 0 rfl rfl dX10_fails_9 ?_
  refine z_getr (pc := 10) hG zc_X10 inX10 DL_0 6 rfl (by decide) rfl w285 dX10_fails_10 ?_
  refine z_iload_n (pc := 13) hG 1 rfl rfl dX10_fails_13 ?_
  replace h := zbind h
  obtain ⟨v2, hv2, h⟩ := h
  refine z_cvI (pc := 14) (A' := 0) (B' := 0) hG [.int a1] [.ref 20] zc_X8 DL_31 (tX8_codeOf hl0 a1 g hv2) zy_X8_codeOf ⟨w992, w993⟩ w991 dX10_fails_14 rfl (Nat.le_of_ble_eq_true rfl) rfl rfl rfl (Nat.le_of_ble_eq_true rfl) rfl ?_
  replace h := zbind h
  obtain ⟨v3, hv3, h⟩ := h
  refine z_cvI (pc := 17) (A' := 0) (B' := 0) hG [.int v2] [] zc_X5 DL_20 (tX5_editsFailed hl0 v2 g hv3) zy_X5_editsFailed ⟨w470, w471⟩ w979 dX10_fails_17 rfl (Nat.le_of_ble_eq_true rfl) rfl rfl rfl (Nat.le_of_ble_eq_true rfl) rfl ?_
  obtain rfl := Option.some.inj h
  exact z_iret (pc := 20) hG rfl rfl hk dX10_fails_20
noncomputable def nX10_needAnswers (a1 : Int32) (a2 : Int32) (g : zS) : Option (Unit ⊕ String) :=
  (nX8_codeOf a1 g).bind fun v1 => (nX1_missingIn v1 (g.1 3 0)).bind fun v2 => if (v2 &&& (a2 ^^^ (-1 : Int32))) = 0 then (some (.inl ())) else (some (.inr "java/lang/IllegalStateException"))
set_option maxHeartbeats 60000 in
theorem tX10_needAnswers {l : Launch} (hl0 : l.flags = flags0) (a1 : Int32) (a2 : Int32) (g : zS) {r : (Unit ⊕ String)} (h : nX10_needAnswers a1 a2 g = some r) : zC l yX10_needAnswers cX10_needAnswers 3 ((Option.none : Option Jvm.ClassFile.FieldType)) 8 1 6 [.ref 0, .int a1, .int a2] zD g (ztV r, zD, g) := by
  refine zC_of hl0 rfl (Nat.le_of_ble_eq_true rfl) (fun x hG hxl hk _ => ?_)
  subst hxl
  show zK x 8 0 [(0, .ref 0), (1, .int a1), (2, .int a2)] [] zD g 1 6
  unfold nX10_needAnswers at h
  refine z_aload_n (pc := 0) hG 0 rfl rfl dX10_needAnswers_0 ?_
  refine z_getr (pc := 1) hG zc_X10 inX10 DL_0 6 rfl (by decide) rfl w285 dX10_needAnswers_1 ?_
  refine z_iload_n (pc := 4) hG 1 rfl rfl dX10_needAnswers_4 ?_
  replace h := zbind h
  obtain ⟨v1, hv1, h⟩ := h
  refine z_cvI (pc := 5) (A' := 1) (B' := 6) hG [.int a1] [] zc_X8 DL_31 (tX8_codeOf hl0 a1 g hv1) zy_X8_codeOf ⟨w992, w993⟩ w991 dX10_needAnswers_5 rfl (Nat.le_of_ble_eq_true rfl) rfl rfl rfl (Nat.le_of_ble_eq_true rfl) rfl ?_
  refine z_aload_n (pc := 8) hG 0 rfl rfl dX10_needAnswers_8 ?_
  refine z_getr (pc := 9) hG zc_X10 inX10 DL_0 1 rfl (by decide) rfl w280 dX10_needAnswers_9 ?_
  refine z_geti (pc := 12) hG zc_X6 inX6 DL_3 0 rfl (by decide) rfl w63 dX10_needAnswers_12 ?_
  replace h := zbind h
  obtain ⟨v2, hv2, h⟩ := h
  refine z_csI (pc := 15) (A' := 1) (B' := 6) hG [.int v1, .int (g.1 3 0)] [] (tX1_missingIn hl0 v1 (g.1 3 0) g hv2) zy_X1_missingIn w432 w1060 dX10_needAnswers_15 rfl (Nat.le_of_ble_eq_true rfl) rfl rfl rfl (Nat.le_of_ble_eq_true rfl) rfl ?_
  refine z_iload_n (pc := 18) hG 2 rfl rfl dX10_needAnswers_18 ?_
  refine z_iconst (pc := 19) hG kc_m1 dX10_needAnswers_19 ?_
  refine z_ixor (pc := 20) hG dX10_needAnswers_20 ?_
  refine z_iand (pc := 21) hG dX10_needAnswers_21 ?_
  refine z_if_eq (pc := 22) (tgt := 33) hG dX10_needAnswers_22 rfl (fun hc => ?_) (fun hc => ?_)
  · replace h := zif_t hc h
    obtain rfl := Option.some.inj h
    exact z_vret (pc := 33) hG rfl hk dX10_needAnswers_33
  · replace h := zif_f hc h
    obtain rfl := Option.some.inj h
    exact z_throw (pc := 25) hG (by decide) (by decide) w1020 w27 hatRX10_222 hbdRX10_222 hgdRX10_222 (by decide) (Nat.le_of_ble_eq_true rfl) (Nat.le_of_ble_eq_true rfl) (Nat.le_of_ble_eq_true rfl) (Nat.le_of_ble_eq_true rfl) dX10_needAnswers_25 dX10_needAnswers_28 dX10_needAnswers_29 dX10_needAnswers_32 hk
noncomputable def nX10_may (a1 : Int32) (a2 : Int32) (g : zS) : Option (Int32 ⊕ String) :=
  (nX10_needRow a1 g).bind fun v1 => zel v1 (fun w1 => (nX10_needField a2 g).bind fun v2 => zel v2 (fun w2 => (nX10_needAnswers a1 ((1 : Int32) <<< (a2 &&& 31)) g).bind fun v3 => zel v3 (fun w3 => (nX8_codeOf a1 g).bind fun v4 => (nX5_valuesIn v4 ((1 : Int32) <<< (a2 &&& 31)) a2 g).bind fun v5 => some (.inl v5)) (fun e => some (.inr e))) (fun e => some (.inr e))) (fun e => some (.inr e))
set_option maxHeartbeats 60000 in
theorem tX10_may {l : Launch} (hl0 : l.flags = flags0) (a1 : Int32) (a2 : Int32) (g : zS) {r : (Int32 ⊕ String)} (h : nX10_may a1 a2 g = some r) : zC l yX10_may cX10_may 3 ((Option.some Jvm.ClassFile.FieldType.int)) 9 3 18 [.ref 0, .int a1, .int a2] zD g (ztI r, zD, g) := by
  refine zC_of hl0 rfl (Nat.le_of_ble_eq_true rfl) (fun x hG hxl hk _ => ?_)
  subst hxl
  show zK x 9 0 [(0, .ref 0), (1, .int a1), (2, .int a2)] [] zD g 3 18
  unfold nX10_may at h
  refine z_aload_n (pc := 0) hG 0 rfl rfl dX10_may_0 ?_
  refine z_iload_n (pc := 1) hG 1 rfl rfl dX10_may_1 ?_
  replace h := zbind h
  obtain ⟨w1 | e, hv1, h⟩ := h
  rotate_left
  · replace h := zel_r h
    obtain rfl := Option.some.inj h
    exact z_cvX (pc := 2) hG [.int a1] [] zc_X10 DL_0 (tX10_needRow hl0 a1 g hv1) zy_X10_needRow ⟨w989, wp41⟩ w987 dX10_may_2 rfl (Nat.le_of_ble_eq_true rfl) (Nat.le_of_ble_eq_true rfl) (Nat.le_of_ble_eq_true rfl) (Nat.le_of_ble_eq_true rfl) rfl hk
  replace h := zel_l h
  refine z_cvV (pc := 2) (A' := 2) (B' := 12) hG [.int a1] [] zc_X10 DL_0 (tX10_needRow hl0 a1 g hv1) zy_X10_needRow ⟨w989, wp41⟩ w987 dX10_may_2 rfl (Nat.le_of_ble_eq_true rfl) rfl rfl rfl (Nat.le_of_ble_eq_true rfl) rfl ?_
  refine z_aload_n (pc := 5) hG 0 rfl rfl dX10_may_5 ?_
  refine z_iload_n (pc := 6) hG 2 rfl rfl dX10_may_6 ?_
  replace h := zbind h
  obtain ⟨w2 | e, hv2, h⟩ := h
  rotate_left
  · replace h := zel_r h
    obtain rfl := Option.some.inj h
    exact z_cvX (pc := 7) hG [.int a2] [] zc_X10 DL_0 (tX10_needField hl0 a2 g hv2) zy_X10_needField ⟨w835, wp35⟩ w833 dX10_may_7 rfl (Nat.le_of_ble_eq_true rfl) (Nat.le_of_ble_eq_true rfl) (Nat.le_of_ble_eq_true rfl) (Nat.le_of_ble_eq_true rfl) rfl hk
  replace h := zel_l h
  refine z_cvV (pc := 7) (A' := 1) (B' := 6) hG [.int a2] [] zc_X10 DL_0 (tX10_needField hl0 a2 g hv2) zy_X10_needField ⟨w835, wp35⟩ w833 dX10_may_7 rfl (Nat.le_of_ble_eq_true rfl) rfl rfl rfl (Nat.le_of_ble_eq_true rfl) rfl ?_
  refine z_aload_n (pc := 10) hG 0 rfl rfl dX10_may_10 ?_
  refine z_iload_n (pc := 11) hG 1 rfl rfl dX10_may_11 ?_
  refine z_iconst (pc := 12) hG kc_1 dX10_may_12 ?_
  refine z_iload_n (pc := 13) hG 2 rfl rfl dX10_may_13 ?_
  refine z_ishl (pc := 14) hG dX10_may_14 ?_
  replace h := zbind h
  obtain ⟨w3 | e, hv3, h⟩ := h
  rotate_left
  · replace h := zel_r h
    obtain rfl := Option.some.inj h
    exact z_cvX (pc := 15) hG [.int a1, .int ((1 : Int32) <<< (a2 &&& 31))] [] zc_X10 DL_0 (tX10_needAnswers hl0 a1 ((1 : Int32) <<< (a2 &&& 31)) g hv3) zy_X10_needAnswers ⟨w1058, wp43⟩ w1056 dX10_may_15 rfl (Nat.le_of_ble_eq_true rfl) (Nat.le_of_ble_eq_true rfl) (Nat.le_of_ble_eq_true rfl) (Nat.le_of_ble_eq_true rfl) rfl hk
  replace h := zel_l h
  refine z_cvV (pc := 15) (A' := 0) (B' := 0) hG [.int a1, .int ((1 : Int32) <<< (a2 &&& 31))] [] zc_X10 DL_0 (tX10_needAnswers hl0 a1 ((1 : Int32) <<< (a2 &&& 31)) g hv3) zy_X10_needAnswers ⟨w1058, wp43⟩ w1056 dX10_may_15 rfl (Nat.le_of_ble_eq_true rfl) rfl rfl rfl (Nat.le_of_ble_eq_true rfl) rfl ?_
  refine z_aload_n (pc := 18) hG 0 rfl rfl dX10_may_18 ?_
  refine z_getr (pc := 19) hG zc_X10 inX10 DL_0 4 rfl (by decide) rfl w283 dX10_may_19 ?_
  refine z_aload_n (pc := 22) hG 0 rfl rfl dX10_may_22 ?_
  refine z_getr (pc := 23) hG zc_X10 inX10 DL_0 6 rfl (by decide) rfl w285 dX10_may_23 ?_
  refine z_iload_n (pc := 26) hG 1 rfl rfl dX10_may_26 ?_
  replace h := zbind h
  obtain ⟨v4, hv4, h⟩ := h
  refine z_cvI (pc := 27) (A' := 0) (B' := 0) hG [.int a1] [.ref 20] zc_X8 DL_31 (tX8_codeOf hl0 a1 g hv4) zy_X8_codeOf ⟨w992, w993⟩ w991 dX10_may_27 rfl (Nat.le_of_ble_eq_true rfl) rfl rfl rfl (Nat.le_of_ble_eq_true rfl) rfl ?_
  refine z_iconst (pc := 30) hG kc_1 dX10_may_30 ?_
  refine z_iload_n (pc := 31) hG 2 rfl rfl dX10_may_31 ?_
  refine z_ishl (pc := 32) hG dX10_may_32 ?_
  refine z_iload_n (pc := 33) hG 2 rfl rfl dX10_may_33 ?_
  replace h := zbind h
  obtain ⟨v5, hv5, h⟩ := h
  refine z_cvI (pc := 34) (A' := 0) (B' := 0) hG [.int v4, .int ((1 : Int32) <<< (a2 &&& 31)), .int a2] [] zc_X5 DL_20 (tX5_valuesIn hl0 v4 ((1 : Int32) <<< (a2 &&& 31)) a2 g hv5) zy_X5_valuesIn ⟨w1079, w1080⟩ w1078 dX10_may_34 rfl (Nat.le_of_ble_eq_true rfl) rfl rfl rfl (Nat.le_of_ble_eq_true rfl) rfl ?_
  obtain rfl := Option.some.inj h
  exact z_iret (pc := 37) hG rfl rfl hk dX10_may_37
noncomputable def nX10_likely (a1 : Int32) (a2 : Int32) (g : zS) : Option (Int32 ⊕ String) :=
  (nX10_needRow a1 g).bind fun v1 => zel v1 (fun w1 => (nX10_needField a2 g).bind fun v2 => zel v2 (fun w2 => (nX10_needAnswers a1 ((1 : Int32) <<< (a2 &&& 31)) g).bind fun v3 => zel v3 (fun w3 => (nX8_codeOf a1 g).bind fun v4 => (nX5_valuesIn v4 ((1 : Int32) <<< (a2 &&& 31)) a2 g).bind fun v5 => (nX4_likeliest a2 v5 g).bind fun v6 => some (.inl v6)) (fun e => some (.inr e))) (fun e => some (.inr e))) (fun e => some (.inr e))
set_option maxHeartbeats 60000 in
theorem tX10_likely {l : Launch} (hl0 : l.flags = flags0) (a1 : Int32) (a2 : Int32) (g : zS) {r : (Int32 ⊕ String)} (h : nX10_likely a1 a2 g = some r) : zC l yX10_likely cX10_likely 3 ((Option.some Jvm.ClassFile.FieldType.int)) 9 3 18 [.ref 0, .int a1, .int a2] zD g (ztI r, zD, g) := by
  refine zC_of hl0 rfl (Nat.le_of_ble_eq_true rfl) (fun x hG hxl hk _ => ?_)
  subst hxl
  show zK x 9 0 [(0, .ref 0), (1, .int a1), (2, .int a2)] [] zD g 3 18
  unfold nX10_likely at h
  refine z_aload_n (pc := 0) hG 0 rfl rfl dX10_likely_0 ?_
  refine z_iload_n (pc := 1) hG 1 rfl rfl dX10_likely_1 ?_
  replace h := zbind h
  obtain ⟨w1 | e, hv1, h⟩ := h
  rotate_left
  · replace h := zel_r h
    obtain rfl := Option.some.inj h
    exact z_cvX (pc := 2) hG [.int a1] [] zc_X10 DL_0 (tX10_needRow hl0 a1 g hv1) zy_X10_needRow ⟨w989, wp41⟩ w987 dX10_likely_2 rfl (Nat.le_of_ble_eq_true rfl) (Nat.le_of_ble_eq_true rfl) (Nat.le_of_ble_eq_true rfl) (Nat.le_of_ble_eq_true rfl) rfl hk
  replace h := zel_l h
  refine z_cvV (pc := 2) (A' := 2) (B' := 12) hG [.int a1] [] zc_X10 DL_0 (tX10_needRow hl0 a1 g hv1) zy_X10_needRow ⟨w989, wp41⟩ w987 dX10_likely_2 rfl (Nat.le_of_ble_eq_true rfl) rfl rfl rfl (Nat.le_of_ble_eq_true rfl) rfl ?_
  refine z_aload_n (pc := 5) hG 0 rfl rfl dX10_likely_5 ?_
  refine z_iload_n (pc := 6) hG 2 rfl rfl dX10_likely_6 ?_
  replace h := zbind h
  obtain ⟨w2 | e, hv2, h⟩ := h
  rotate_left
  · replace h := zel_r h
    obtain rfl := Option.some.inj h
    exact z_cvX (pc := 7) hG [.int a2] [] zc_X10 DL_0 (tX10_needField hl0 a2 g hv2) zy_X10_needField ⟨w835, wp35⟩ w833 dX10_likely_7 rfl (Nat.le_of_ble_eq_true rfl) (Nat.le_of_ble_eq_true rfl) (Nat.le_of_ble_eq_true rfl) (Nat.le_of_ble_eq_true rfl) rfl hk
  replace h := zel_l h
  refine z_cvV (pc := 7) (A' := 1) (B' := 6) hG [.int a2] [] zc_X10 DL_0 (tX10_needField hl0 a2 g hv2) zy_X10_needField ⟨w835, wp35⟩ w833 dX10_likely_7 rfl (Nat.le_of_ble_eq_true rfl) rfl rfl rfl (Nat.le_of_ble_eq_true rfl) rfl ?_
  refine z_aload_n (pc := 10) hG 0 rfl rfl dX10_likely_10 ?_
  refine z_iload_n (pc := 11) hG 1 rfl rfl dX10_likely_11 ?_
  refine z_iconst (pc := 12) hG kc_1 dX10_likely_12 ?_
  refine z_iload_n (pc := 13) hG 2 rfl rfl dX10_likely_13 ?_
  refine z_ishl (pc := 14) hG dX10_likely_14 ?_
  replace h := zbind h
  obtain ⟨w3 | e, hv3, h⟩ := h
  rotate_left
  · replace h := zel_r h
    obtain rfl := Option.some.inj h
    exact z_cvX (pc := 15) hG [.int a1, .int ((1 : Int32) <<< (a2 &&& 31))] [] zc_X10 DL_0 (tX10_needAnswers hl0 a1 ((1 : Int32) <<< (a2 &&& 31)) g hv3) zy_X10_needAnswers ⟨w1058, wp43⟩ w1056 dX10_likely_15 rfl (Nat.le_of_ble_eq_true rfl) (Nat.le_of_ble_eq_true rfl) (Nat.le_of_ble_eq_true rfl) (Nat.le_of_ble_eq_true rfl) rfl hk
  replace h := zel_l h
  refine z_cvV (pc := 15) (A' := 0) (B' := 0) hG [.int a1, .int ((1 : Int32) <<< (a2 &&& 31))] [] zc_X10 DL_0 (tX10_needAnswers hl0 a1 ((1 : Int32) <<< (a2 &&& 31)) g hv3) zy_X10_needAnswers ⟨w1058, wp43⟩ w1056 dX10_likely_15 rfl (Nat.le_of_ble_eq_true rfl) rfl rfl rfl (Nat.le_of_ble_eq_true rfl) rfl ?_
  refine z_aload_n (pc := 18) hG 0 rfl rfl dX10_likely_18 ?_
  refine z_getr (pc := 19) hG zc_X10 inX10 DL_0 8 rfl (by decide) rfl w287 dX10_likely_19 ?_
  refine z_iload_n (pc := 22) hG 2 rfl rfl dX10_likely_22 ?_
  refine z_aload_n (pc := 23) hG 0 rfl rfl dX10_likely_23 ?_
  refine z_getr (pc := 24) hG zc_X10 inX10 DL_0 4 rfl (by decide) rfl w283 dX10_likely_24 ?_
  refine z_aload_n (pc := 27) hG 0 rfl rfl dX10_likely_27 ?_
  refine z_getr (pc := 28) hG zc_X10 inX10 DL_0 6 rfl (by decide) rfl w285 dX10_likely_28 ?_
  refine z_iload_n (pc := 31) hG 1 rfl rfl dX10_likely_31 ?_
  replace h := zbind h
  obtain ⟨v4, hv4, h⟩ := h
  refine z_cvI (pc := 32) (A' := 0) (B' := 0) hG [.int a1] [.ref 20, .int a2, .ref 37] zc_X8 DL_31 (tX8_codeOf hl0 a1 g hv4) zy_X8_codeOf ⟨w992, w993⟩ w991 dX10_likely_32 rfl (Nat.le_of_ble_eq_true rfl) rfl rfl rfl (Nat.le_of_ble_eq_true rfl) rfl ?_
  refine z_iconst (pc := 35) hG kc_1 dX10_likely_35 ?_
  refine z_iload_n (pc := 36) hG 2 rfl rfl dX10_likely_36 ?_
  refine z_ishl (pc := 37) hG dX10_likely_37 ?_
  refine z_iload_n (pc := 38) hG 2 rfl rfl dX10_likely_38 ?_
  replace h := zbind h
  obtain ⟨v5, hv5, h⟩ := h
  refine z_cvI (pc := 39) (A' := 0) (B' := 0) hG [.int v4, .int ((1 : Int32) <<< (a2 &&& 31)), .int a2] [.int a2, .ref 37] zc_X5 DL_20 (tX5_valuesIn hl0 v4 ((1 : Int32) <<< (a2 &&& 31)) a2 g hv5) zy_X5_valuesIn ⟨w1079, w1080⟩ w1078 dX10_likely_39 rfl (Nat.le_of_ble_eq_true rfl) rfl rfl rfl (Nat.le_of_ble_eq_true rfl) rfl ?_
  replace h := zbind h
  obtain ⟨v6, hv6, h⟩ := h
  refine z_cvI (pc := 42) (A' := 0) (B' := 0) hG [.int a2, .int v5] [] zc_X4 DL_37 (tX4_likeliest hl0 a2 v5 g hv6) zy_X4_likeliest ⟨w1094, w1095⟩ w1093 dX10_likely_42 rfl (Nat.le_of_ble_eq_true rfl) rfl rfl rfl (Nat.le_of_ble_eq_true rfl) rfl ?_
  obtain rfl := Option.some.inj h
  exact z_iret (pc := 45) hG rfl rfl hk dX10_likely_45
noncomputable def jX10_needSet_15 (g : zS) : Option (Unit ⊕ String) :=
  some (.inr "java/lang/IllegalArgumentException")
noncomputable def nX10_needSet (a1 : Int32) (g : zS) : Option (Unit ⊕ String) :=
  if a1 < 0 then (jX10_needSet_15 g) else ((nX6_allFields g).bind fun v1 => if a1 ≤ v1 then (some (.inl ())) else (jX10_needSet_15 g))
set_option maxHeartbeats 60000 in
theorem kjX10_needSet_15 {x : zXx} (hG : zG x cX10_needSet 2 RX10 ((Option.none : Option Jvm.ClassFile.FieldType))) (hl0 : (zl0 x).flags = flags0) (g : zS) {o : (Unit ⊕ String)} (h : jX10_needSet_15 g = some o) (hk : ztg x = (ztV o, zD, g)) : zK x 8 15 [] [] zD g 1 6 := by
  unfold jX10_needSet_15 at h
  obtain rfl := Option.some.inj h
  exact z_throw (pc := 15) hG (by decide) (by decide) w713 w19 hatRX10_112 hbdRX10_112 hgdRX10_112 (by decide) (Nat.le_of_ble_eq_true rfl) (Nat.le_of_ble_eq_true rfl) (Nat.le_of_ble_eq_true rfl) (Nat.le_of_ble_eq_true rfl) dX10_needSet_15 dX10_needSet_18 dX10_needSet_19 dX10_needSet_22 hk
set_option maxHeartbeats 60000 in
theorem tX10_needSet {l : Launch} (hl0 : l.flags = flags0) (a1 : Int32) (g : zS) {r : (Unit ⊕ String)} (h : nX10_needSet a1 g = some r) : zC l yX10_needSet cX10_needSet 2 ((Option.none : Option Jvm.ClassFile.FieldType)) 8 1 6 [.ref 0, .int a1] zD g (ztV r, zD, g) := by
  refine zC_of hl0 rfl (Nat.le_of_ble_eq_true rfl) (fun x hG hxl hk _ => ?_)
  subst hxl
  show zK x 8 0 [(0, .ref 0), (1, .int a1)] [] zD g 1 6
  unfold nX10_needSet at h
  refine z_iload_n (pc := 0) hG 1 rfl rfl dX10_needSet_0 ?_
  refine z_if_lt (pc := 1) (tgt := 15) hG dX10_needSet_1 rfl (fun hc => ?_) (fun hc => ?_)
  · replace h := zif_t hc h
    refine z_sub (ls' := []) [] rfl ?_
    exact kjX10_needSet_15 hG hl0 g h hk
  · replace h := zif_f hc h
    refine z_iload_n (pc := 4) hG 1 rfl rfl dX10_needSet_4 ?_
    refine z_aload_n (pc := 5) hG 0 rfl rfl dX10_needSet_5 ?_
    refine z_getr (pc := 6) hG zc_X10 inX10 DL_0 1 rfl (by decide) rfl w280 dX10_needSet_6 ?_
    replace h := zbind h
    obtain ⟨v1, hv1, h⟩ := h
    refine z_cvI (pc := 9) (A' := 1) (B' := 6) hG [] [.int a1] zc_X6 DL_3 (tX6_allFields hl0  g hv1) zy_X6_allFields ⟨w455, w456⟩ w546 dX10_needSet_9 rfl (Nat.le_of_ble_eq_true rfl) rfl rfl rfl (Nat.le_of_ble_eq_true rfl) rfl ?_
    refine z_icmp_le (pc := 12) (tgt := 23) hG dX10_needSet_12 rfl (fun hc => ?_) (fun hc => ?_)
    · replace h := zif_t hc h
      obtain rfl := Option.some.inj h
      exact z_vret (pc := 23) hG rfl hk dX10_needSet_23
    · replace h := zif_f hc h
      refine z_sub (ls' := []) [] rfl ?_
      exact kjX10_needSet_15 hG hl0 g h hk
noncomputable def nX10_mends (a1 : Int32) (a2 : Int32) (g : zS) : Option (Int32 ⊕ String) :=
  (nX10_needRow a1 g).bind fun v1 => zel v1 (fun w1 => (nX10_needSet a2 g).bind fun v2 => zel v2 (fun w2 => (nX8_codeOf a1 g).bind fun v3 => (nX5_canMend v3 a2 g).bind fun v4 => zchk (znb v4) (some (.inl v4))) (fun e => some (.inr e))) (fun e => some (.inr e))
set_option maxHeartbeats 60000 in
theorem tX10_mends {l : Launch} (hl0 : l.flags = flags0) (a1 : Int32) (a2 : Int32) (g : zS) {r : (Int32 ⊕ String)} (h : nX10_mends a1 a2 g = some r) : zC l yX10_mends cX10_mends 3 ((Option.some Jvm.ClassFile.FieldType.boolean)) 9 2 12 [.ref 0, .int a1, .int a2] zD g (ztI r, zD, g) := by
  refine zC_of hl0 rfl (Nat.le_of_ble_eq_true rfl) (fun x hG hxl hk _ => ?_)
  subst hxl
  show zK x 9 0 [(0, .ref 0), (1, .int a1), (2, .int a2)] [] zD g 2 12
  unfold nX10_mends at h
  refine z_aload_n (pc := 0) hG 0 rfl rfl dX10_mends_0 ?_
  refine z_iload_n (pc := 1) hG 1 rfl rfl dX10_mends_1 ?_
  replace h := zbind h
  obtain ⟨w1 | e, hv1, h⟩ := h
  rotate_left
  · replace h := zel_r h
    obtain rfl := Option.some.inj h
    exact z_cvX (pc := 2) hG [.int a1] [] zc_X10 DL_0 (tX10_needRow hl0 a1 g hv1) zy_X10_needRow ⟨w989, wp41⟩ w987 dX10_mends_2 rfl (Nat.le_of_ble_eq_true rfl) (Nat.le_of_ble_eq_true rfl) (Nat.le_of_ble_eq_true rfl) (Nat.le_of_ble_eq_true rfl) rfl hk
  replace h := zel_l h
  refine z_cvV (pc := 2) (A' := 1) (B' := 6) hG [.int a1] [] zc_X10 DL_0 (tX10_needRow hl0 a1 g hv1) zy_X10_needRow ⟨w989, wp41⟩ w987 dX10_mends_2 rfl (Nat.le_of_ble_eq_true rfl) rfl rfl rfl (Nat.le_of_ble_eq_true rfl) rfl ?_
  refine z_aload_n (pc := 5) hG 0 rfl rfl dX10_mends_5 ?_
  refine z_iload_n (pc := 6) hG 2 rfl rfl dX10_mends_6 ?_
  replace h := zbind h
  obtain ⟨w2 | e, hv2, h⟩ := h
  rotate_left
  · replace h := zel_r h
    obtain rfl := Option.some.inj h
    exact z_cvX (pc := 7) hG [.int a2] [] zc_X10 DL_0 (tX10_needSet hl0 a2 g hv2) zy_X10_needSet ⟨w1135, wp49⟩ w1133 dX10_mends_7 rfl (Nat.le_of_ble_eq_true rfl) (Nat.le_of_ble_eq_true rfl) (Nat.le_of_ble_eq_true rfl) (Nat.le_of_ble_eq_true rfl) rfl hk
  replace h := zel_l h
  refine z_cvV (pc := 7) (A' := 0) (B' := 0) hG [.int a2] [] zc_X10 DL_0 (tX10_needSet hl0 a2 g hv2) zy_X10_needSet ⟨w1135, wp49⟩ w1133 dX10_mends_7 rfl (Nat.le_of_ble_eq_true rfl) rfl rfl rfl (Nat.le_of_ble_eq_true rfl) rfl ?_
  refine z_aload_n (pc := 10) hG 0 rfl rfl dX10_mends_10 ?_
  refine z_getr (pc := 11) hG zc_X10 inX10 DL_0 4 rfl (by decide) rfl w283 dX10_mends_11 ?_
  refine z_aload_n (pc := 14) hG 0 rfl rfl dX10_mends_14 ?_
  refine z_getr (pc := 15) hG zc_X10 inX10 DL_0 6 rfl (by decide) rfl w285 dX10_mends_15 ?_
  refine z_iload_n (pc := 18) hG 1 rfl rfl dX10_mends_18 ?_
  replace h := zbind h
  obtain ⟨v3, hv3, h⟩ := h
  refine z_cvI (pc := 19) (A' := 0) (B' := 0) hG [.int a1] [.ref 20] zc_X8 DL_31 (tX8_codeOf hl0 a1 g hv3) zy_X8_codeOf ⟨w992, w993⟩ w991 dX10_mends_19 rfl (Nat.le_of_ble_eq_true rfl) rfl rfl rfl (Nat.le_of_ble_eq_true rfl) rfl ?_
  refine z_iload_n (pc := 22) hG 2 rfl rfl dX10_mends_22 ?_
  replace h := zbind h
  obtain ⟨v4, hv4, h⟩ := h
  refine z_cvI (pc := 23) (A' := 0) (B' := 0) hG [.int v3, .int a2] [] zc_X5 DL_20 (tX5_canMend hl0 v3 a2 g hv4) zy_X5_canMend ⟨w459, w460⟩ w1137 dX10_mends_23 rfl (Nat.le_of_ble_eq_true rfl) rfl rfl rfl (Nat.le_of_ble_eq_true rfl) rfl ?_
  replace h := zchk_some h
  obtain ⟨hc, h⟩ := h
  obtain rfl := Option.some.inj h
  exact z_iret (pc := 26) hG rfl (znb_n hc) hk dX10_mends_26
noncomputable def nX10_ways (a1 : Int32) (a2 : Int32) (g : zS) : Option ((Int32 ⊕ String) × zS) :=
  (nX10_needRow a1 g).bind fun v1 => zel v1 (fun w1 => (nX10_needSet a2 g).bind fun v2 => zel v2 (fun w2 => (nX8_codeOf a1 g).bind fun v3 => (nX5_countWays v3 a2 g).bind fun v4 => some ((.inl v4.1, v4.2))) (fun e => some ((.inr e, g)))) (fun e => some ((.inr e, g)))
set_option maxHeartbeats 60000 in
theorem tX10_ways {l : Launch} (hl0 : l.flags = flags0) (a1 : Int32) (a2 : Int32) (g : zS) {r : ((Int32 ⊕ String) × zS)} (h : nX10_ways a1 a2 g = some r) : zC l yX10_ways cX10_ways 3 ((Option.some Jvm.ClassFile.FieldType.int)) 9 2 12 [.ref 0, .int a1, .int a2] zD g (ztI r.1, zD, r.2) := by
  refine zC_of hl0 rfl (Nat.le_of_ble_eq_true rfl) (fun x hG hxl hk _ => ?_)
  subst hxl
  show zK x 9 0 [(0, .ref 0), (1, .int a1), (2, .int a2)] [] zD g 2 12
  unfold nX10_ways at h
  refine z_aload_n (pc := 0) hG 0 rfl rfl dX10_ways_0 ?_
  refine z_iload_n (pc := 1) hG 1 rfl rfl dX10_ways_1 ?_
  replace h := zbind h
  obtain ⟨w1 | e, hv1, h⟩ := h
  rotate_left
  · replace h := zel_r h
    obtain rfl := Option.some.inj h
    exact z_cvX (pc := 2) hG [.int a1] [] zc_X10 DL_0 (tX10_needRow hl0 a1 g hv1) zy_X10_needRow ⟨w989, wp41⟩ w987 dX10_ways_2 rfl (Nat.le_of_ble_eq_true rfl) (Nat.le_of_ble_eq_true rfl) (Nat.le_of_ble_eq_true rfl) (Nat.le_of_ble_eq_true rfl) rfl hk
  replace h := zel_l h
  refine z_cvV (pc := 2) (A' := 1) (B' := 6) hG [.int a1] [] zc_X10 DL_0 (tX10_needRow hl0 a1 g hv1) zy_X10_needRow ⟨w989, wp41⟩ w987 dX10_ways_2 rfl (Nat.le_of_ble_eq_true rfl) rfl rfl rfl (Nat.le_of_ble_eq_true rfl) rfl ?_
  refine z_aload_n (pc := 5) hG 0 rfl rfl dX10_ways_5 ?_
  refine z_iload_n (pc := 6) hG 2 rfl rfl dX10_ways_6 ?_
  replace h := zbind h
  obtain ⟨w2 | e, hv2, h⟩ := h
  rotate_left
  · replace h := zel_r h
    obtain rfl := Option.some.inj h
    exact z_cvX (pc := 7) hG [.int a2] [] zc_X10 DL_0 (tX10_needSet hl0 a2 g hv2) zy_X10_needSet ⟨w1135, wp49⟩ w1133 dX10_ways_7 rfl (Nat.le_of_ble_eq_true rfl) (Nat.le_of_ble_eq_true rfl) (Nat.le_of_ble_eq_true rfl) (Nat.le_of_ble_eq_true rfl) rfl hk
  replace h := zel_l h
  refine z_cvV (pc := 7) (A' := 0) (B' := 0) hG [.int a2] [] zc_X10 DL_0 (tX10_needSet hl0 a2 g hv2) zy_X10_needSet ⟨w1135, wp49⟩ w1133 dX10_ways_7 rfl (Nat.le_of_ble_eq_true rfl) rfl rfl rfl (Nat.le_of_ble_eq_true rfl) rfl ?_
  refine z_aload_n (pc := 10) hG 0 rfl rfl dX10_ways_10 ?_
  refine z_getr (pc := 11) hG zc_X10 inX10 DL_0 4 rfl (by decide) rfl w283 dX10_ways_11 ?_
  refine z_aload_n (pc := 14) hG 0 rfl rfl dX10_ways_14 ?_
  refine z_getr (pc := 15) hG zc_X10 inX10 DL_0 6 rfl (by decide) rfl w285 dX10_ways_15 ?_
  refine z_iload_n (pc := 18) hG 1 rfl rfl dX10_ways_18 ?_
  replace h := zbind h
  obtain ⟨v3, hv3, h⟩ := h
  refine z_cvI (pc := 19) (A' := 0) (B' := 0) hG [.int a1] [.ref 20] zc_X8 DL_31 (tX8_codeOf hl0 a1 g hv3) zy_X8_codeOf ⟨w992, w993⟩ w991 dX10_ways_19 rfl (Nat.le_of_ble_eq_true rfl) rfl rfl rfl (Nat.le_of_ble_eq_true rfl) rfl ?_
  refine z_iload_n (pc := 22) hG 2 rfl rfl dX10_ways_22 ?_
  replace h := zbind h
  obtain ⟨v4, hv4, h⟩ := h
  refine z_cvI (pc := 23) (A' := 0) (B' := 0) hG [.int v3, .int a2] [] zc_X5 DL_20 (tX5_countWays hl0 v3 a2 g hv4) zy_X5_countWays ⟨w1146, w1147⟩ w1145 dX10_ways_23 rfl (Nat.le_of_ble_eq_true rfl) rfl rfl rfl (Nat.le_of_ble_eq_true rfl) rfl ?_
  obtain rfl := Option.some.inj h
  exact z_iret (pc := 26) hG rfl rfl hk dX10_ways_26
noncomputable def nX10_least (a1 : Int32) (a2 : Int32) (g : zS) : Option (Int32 ⊕ String) :=
  (nX10_needRow a1 g).bind fun v1 => zel v1 (fun w1 => (nX8_codeOf a1 g).bind fun v2 => if a2 = 0 then ((nX5_leastSet v2 g).bind fun v3 => some (.inl v3)) else (if a2 = 1 then ((nX5_leastWeight v2 g).bind fun v4 => some (.inl v4)) else (if a2 = 2 then ((nX5_countLeast v2 g).bind fun v5 => some (.inl v5)) else (some (.inr "java/util/NoSuchElementException"))))) (fun e => some (.inr e))
set_option maxHeartbeats 60000 in
theorem tX10_least {l : Launch} (hl0 : l.flags = flags0) (a1 : Int32) (a2 : Int32) (g : zS) {r : (Int32 ⊕ String)} (h : nX10_least a1 a2 g = some r) : zC l yX10_least cX10_least 4 ((Option.some Jvm.ClassFile.FieldType.int)) 9 2 12 [.ref 0, .int a1, .int a2] zD g (ztI r, zD, g) := by
  refine zC_of hl0 rfl (Nat.le_of_ble_eq_true rfl) (fun x hG hxl hk _ => ?_)
  subst hxl
  show zK x 9 0 [(0, .ref 0), (1, .int a1), (2, .int a2)] [] zD g 2 12
  unfold nX10_least at h
  refine z_aload_n (pc := 0) hG 0 rfl rfl dX10_least_0 ?_
  refine z_iload_n (pc := 1) hG 1 rfl rfl dX10_least_1 ?_
  replace h := zbind h
  obtain ⟨w1 | e, hv1, h⟩ := h
  rotate_left
  · replace h := zel_r h
    obtain rfl := Option.some.inj h
    exact z_cvX (pc := 2) hG [.int a1] [] zc_X10 DL_0 (tX10_needRow hl0 a1 g hv1) zy_X10_needRow ⟨w989, wp41⟩ w987 dX10_least_2 rfl (Nat.le_of_ble_eq_true rfl) (Nat.le_of_ble_eq_true rfl) (Nat.le_of_ble_eq_true rfl) (Nat.le_of_ble_eq_true rfl) rfl hk
  replace h := zel_l h
  refine z_cvV (pc := 2) (A' := 1) (B' := 6) hG [.int a1] [] zc_X10 DL_0 (tX10_needRow hl0 a1 g hv1) zy_X10_needRow ⟨w989, wp41⟩ w987 dX10_least_2 rfl (Nat.le_of_ble_eq_true rfl) rfl rfl rfl (Nat.le_of_ble_eq_true rfl) rfl ?_
  refine z_aload_n (pc := 5) hG 0 rfl rfl dX10_least_5 ?_
  refine z_getr (pc := 6) hG zc_X10 inX10 DL_0 6 rfl (by decide) rfl w285 dX10_least_6 ?_
  refine z_iload_n (pc := 9) hG 1 rfl rfl dX10_least_9 ?_
  replace h := zbind h
  obtain ⟨v2, hv2, h⟩ := h
  refine z_cvI (pc := 10) (A' := 1) (B' := 6) hG [.int a1] [] zc_X8 DL_31 (tX8_codeOf hl0 a1 g hv2) zy_X8_codeOf ⟨w992, w993⟩ w991 dX10_least_10 rfl (Nat.le_of_ble_eq_true rfl) rfl rfl rfl (Nat.le_of_ble_eq_true rfl) rfl ?_
  refine z_istore_n (pc := 13) (ls' := [(3, .int v2), (0, .ref 0), (1, .int a1), (2, .int a2)]) hG [0, 1, 2, 3] rfl (by decide) rfl dX10_least_13 ?_
  refine z_iload_n (pc := 14) hG 3 rfl rfl dX10_least_14 ?_
  by_cases hc0 : a2 = 0
  · replace h := zif_t hc0 h
    refine z_tabIn (pc := 15) (tgt := 40) hG dX10_least_15 (by rw [hc0]; decide) (by rw [hc0]; decide) (by rw [hc0]; rfl) rfl ?_
    refine z_aload_n (pc := 40) hG 1 rfl rfl dX10_least_40 ?_
    refine z_getr (pc := 41) hG zc_X10 inX10 DL_0 4 rfl (by decide) rfl w283 dX10_least_41 ?_
    refine z_iload_n (pc := 44) hG 0 rfl rfl dX10_least_44 ?_
    replace h := zbind h
    obtain ⟨v3, hv3, h⟩ := h
    refine z_cvI (pc := 45) (A' := 1) (B' := 6) hG [.int v2] [] zc_X5 DL_20 (tX5_leastSet hl0 v2 g hv3) zy_X5_leastSet ⟨w451, w452⟩ w1156 dX10_least_45 rfl (Nat.le_of_ble_eq_true rfl) rfl rfl rfl (Nat.le_of_ble_eq_true rfl) rfl ?_
    obtain rfl := Option.some.inj h
    exact z_iret (pc := 48) hG rfl rfl hk dX10_least_48
  replace h := zif_f hc0 h
  by_cases hc1 : a2 = 1
  · replace h := zif_t hc1 h
    refine z_tabIn (pc := 15) (tgt := 49) hG dX10_least_15 (by rw [hc1]; decide) (by rw [hc1]; decide) (by rw [hc1]; rfl) rfl ?_
    refine z_aload_n (pc := 49) hG 1 rfl rfl dX10_least_49 ?_
    refine z_getr (pc := 50) hG zc_X10 inX10 DL_0 4 rfl (by decide) rfl w283 dX10_least_50 ?_
    refine z_iload_n (pc := 53) hG 0 rfl rfl dX10_least_53 ?_
    replace h := zbind h
    obtain ⟨v4, hv4, h⟩ := h
    refine z_cvI (pc := 54) (A' := 1) (B' := 6) hG [.int v2] [] zc_X5 DL_20 (tX5_leastWeight hl0 v2 g hv4) zy_X5_leastWeight ⟨w447, w448⟩ w1157 dX10_least_54 rfl (Nat.le_of_ble_eq_true rfl) rfl rfl rfl (Nat.le_of_ble_eq_true rfl) rfl ?_
    obtain rfl := Option.some.inj h
    exact z_iret (pc := 57) hG rfl rfl hk dX10_least_57
  replace h := zif_f hc1 h
  by_cases hc2 : a2 = 2
  · replace h := zif_t hc2 h
    refine z_tabIn (pc := 15) (tgt := 58) hG dX10_least_15 (by rw [hc2]; decide) (by rw [hc2]; decide) (by rw [hc2]; rfl) rfl ?_
    refine z_aload_n (pc := 58) hG 1 rfl rfl dX10_least_58 ?_
    refine z_getr (pc := 59) hG zc_X10 inX10 DL_0 4 rfl (by decide) rfl w283 dX10_least_59 ?_
    refine z_iload_n (pc := 62) hG 0 rfl rfl dX10_least_62 ?_
    replace h := zbind h
    obtain ⟨v5, hv5, h⟩ := h
    refine z_cvI (pc := 63) (A' := 1) (B' := 6) hG [.int v2] [] zc_X5 DL_20 (tX5_countLeast hl0 v2 g hv5) zy_X5_countLeast ⟨w1159, w1160⟩ w1158 dX10_least_63 rfl (Nat.le_of_ble_eq_true rfl) rfl rfl rfl (Nat.le_of_ble_eq_true rfl) rfl ?_
    obtain rfl := Option.some.inj h
    exact z_iret (pc := 66) hG rfl rfl hk dX10_least_66
  replace h := zif_f hc2 h
  refine z_tabOut (pc := 15) (tgt := 67) hG dX10_least_15 (ztab_out (n := 2) (fun k hk => by
    match k, hk with
    | 0, _ => exact hc0
    | 1, _ => exact hc1
    | 2, _ => exact hc2
    | k + 3, hk => omega)) rfl ?_
  obtain rfl := Option.some.inj h
  exact z_throw (pc := 67) hG (by decide) (by decide) w852 w25 hatRX10_145 hbdRX10_145 hgdRX10_145 (by decide) (Nat.le_of_ble_eq_true rfl) (Nat.le_of_ble_eq_true rfl) (Nat.le_of_ble_eq_true rfl) (Nat.le_of_ble_eq_true rfl) dX10_least_67 dX10_least_70 dX10_least_71 dX10_least_74 hk
noncomputable def nX10_leastOf (a1 : Int32) (a2 : Int32) (g : zS) : Option (Int32 ⊕ String) :=
  (nX10_needRow a1 g).bind fun v1 => zel v1 (fun w1 => (nX8_codeOf a1 g).bind fun v2 => (nX5_leastAt v2 a2 g).bind fun v3 => some (.inl v3)) (fun e => some (.inr e))
set_option maxHeartbeats 60000 in
theorem tX10_leastOf {l : Launch} (hl0 : l.flags = flags0) (a1 : Int32) (a2 : Int32) (g : zS) {r : (Int32 ⊕ String)} (h : nX10_leastOf a1 a2 g = some r) : zC l yX10_leastOf cX10_leastOf 3 ((Option.some Jvm.ClassFile.FieldType.int)) 9 1 6 [.ref 0, .int a1, .int a2] zD g (ztI r, zD, g) := by
  refine zC_of hl0 rfl (Nat.le_of_ble_eq_true rfl) (fun x hG hxl hk _ => ?_)
  subst hxl
  show zK x 9 0 [(0, .ref 0), (1, .int a1), (2, .int a2)] [] zD g 1 6
  unfold nX10_leastOf at h
  refine z_aload_n (pc := 0) hG 0 rfl rfl dX10_leastOf_0 ?_
  refine z_iload_n (pc := 1) hG 1 rfl rfl dX10_leastOf_1 ?_
  replace h := zbind h
  obtain ⟨w1 | e, hv1, h⟩ := h
  rotate_left
  · replace h := zel_r h
    obtain rfl := Option.some.inj h
    exact z_cvX (pc := 2) hG [.int a1] [] zc_X10 DL_0 (tX10_needRow hl0 a1 g hv1) zy_X10_needRow ⟨w989, wp41⟩ w987 dX10_leastOf_2 rfl (Nat.le_of_ble_eq_true rfl) (Nat.le_of_ble_eq_true rfl) (Nat.le_of_ble_eq_true rfl) (Nat.le_of_ble_eq_true rfl) rfl hk
  replace h := zel_l h
  refine z_cvV (pc := 2) (A' := 0) (B' := 0) hG [.int a1] [] zc_X10 DL_0 (tX10_needRow hl0 a1 g hv1) zy_X10_needRow ⟨w989, wp41⟩ w987 dX10_leastOf_2 rfl (Nat.le_of_ble_eq_true rfl) rfl rfl rfl (Nat.le_of_ble_eq_true rfl) rfl ?_
  refine z_aload_n (pc := 5) hG 0 rfl rfl dX10_leastOf_5 ?_
  refine z_getr (pc := 6) hG zc_X10 inX10 DL_0 4 rfl (by decide) rfl w283 dX10_leastOf_6 ?_
  refine z_aload_n (pc := 9) hG 0 rfl rfl dX10_leastOf_9 ?_
  refine z_getr (pc := 10) hG zc_X10 inX10 DL_0 6 rfl (by decide) rfl w285 dX10_leastOf_10 ?_
  refine z_iload_n (pc := 13) hG 1 rfl rfl dX10_leastOf_13 ?_
  replace h := zbind h
  obtain ⟨v2, hv2, h⟩ := h
  refine z_cvI (pc := 14) (A' := 0) (B' := 0) hG [.int a1] [.ref 20] zc_X8 DL_31 (tX8_codeOf hl0 a1 g hv2) zy_X8_codeOf ⟨w992, w993⟩ w991 dX10_leastOf_14 rfl (Nat.le_of_ble_eq_true rfl) rfl rfl rfl (Nat.le_of_ble_eq_true rfl) rfl ?_
  refine z_iload_n (pc := 17) hG 2 rfl rfl dX10_leastOf_17 ?_
  replace h := zbind h
  obtain ⟨v3, hv3, h⟩ := h
  refine z_cvI (pc := 18) (A' := 0) (B' := 0) hG [.int v2, .int a2] [] zc_X5 DL_20 (tX5_leastAt hl0 v2 a2 g hv3) zy_X5_leastAt ⟨w1171, w1172⟩ w1170 dX10_leastOf_18 rfl (Nat.le_of_ble_eq_true rfl) rfl rfl rfl (Nat.le_of_ble_eq_true rfl) rfl ?_
  obtain rfl := Option.some.inj h
  exact z_iret (pc := 21) hG rfl rfl hk dX10_leastOf_21
noncomputable def nX10_values (a1 : Int32) (a2 : Int32) (a3 : Int32) (g : zS) : Option (Int32 ⊕ String) :=
  (nX10_needRow a1 g).bind fun v1 => zel v1 (fun w1 => (nX10_needField a3 g).bind fun v2 => zel v2 (fun w2 => (nX10_needSet a2 g).bind fun v3 => zel v3 (fun w3 => (nX8_codeOf a1 g).bind fun v4 => (nX5_valuesIn v4 a2 a3 g).bind fun v5 => some (.inl v5)) (fun e => some (.inr e))) (fun e => some (.inr e))) (fun e => some (.inr e))
set_option maxHeartbeats 60000 in
theorem tX10_values {l : Launch} (hl0 : l.flags = flags0) (a1 : Int32) (a2 : Int32) (a3 : Int32) (g : zS) {r : (Int32 ⊕ String)} (h : nX10_values a1 a2 a3 g = some r) : zC l yX10_values cX10_values 4 ((Option.some Jvm.ClassFile.FieldType.int)) 9 3 18 [.ref 0, .int a1, .int a2, .int a3] zD g (ztI r, zD, g) := by
  refine zC_of hl0 rfl (Nat.le_of_ble_eq_true rfl) (fun x hG hxl hk _ => ?_)
  subst hxl
  show zK x 9 0 [(0, .ref 0), (1, .int a1), (2, .int a2), (3, .int a3)] [] zD g 3 18
  unfold nX10_values at h
  refine z_aload_n (pc := 0) hG 0 rfl rfl dX10_values_0 ?_
  refine z_iload_n (pc := 1) hG 1 rfl rfl dX10_values_1 ?_
  replace h := zbind h
  obtain ⟨w1 | e, hv1, h⟩ := h
  rotate_left
  · replace h := zel_r h
    obtain rfl := Option.some.inj h
    exact z_cvX (pc := 2) hG [.int a1] [] zc_X10 DL_0 (tX10_needRow hl0 a1 g hv1) zy_X10_needRow ⟨w989, wp41⟩ w987 dX10_values_2 rfl (Nat.le_of_ble_eq_true rfl) (Nat.le_of_ble_eq_true rfl) (Nat.le_of_ble_eq_true rfl) (Nat.le_of_ble_eq_true rfl) rfl hk
  replace h := zel_l h
  refine z_cvV (pc := 2) (A' := 2) (B' := 12) hG [.int a1] [] zc_X10 DL_0 (tX10_needRow hl0 a1 g hv1) zy_X10_needRow ⟨w989, wp41⟩ w987 dX10_values_2 rfl (Nat.le_of_ble_eq_true rfl) rfl rfl rfl (Nat.le_of_ble_eq_true rfl) rfl ?_
  refine z_aload_n (pc := 5) hG 0 rfl rfl dX10_values_5 ?_
  refine z_iload_n (pc := 6) hG 3 rfl rfl dX10_values_6 ?_
  replace h := zbind h
  obtain ⟨w2 | e, hv2, h⟩ := h
  rotate_left
  · replace h := zel_r h
    obtain rfl := Option.some.inj h
    exact z_cvX (pc := 7) hG [.int a3] [] zc_X10 DL_0 (tX10_needField hl0 a3 g hv2) zy_X10_needField ⟨w835, wp35⟩ w833 dX10_values_7 rfl (Nat.le_of_ble_eq_true rfl) (Nat.le_of_ble_eq_true rfl) (Nat.le_of_ble_eq_true rfl) (Nat.le_of_ble_eq_true rfl) rfl hk
  replace h := zel_l h
  refine z_cvV (pc := 7) (A' := 1) (B' := 6) hG [.int a3] [] zc_X10 DL_0 (tX10_needField hl0 a3 g hv2) zy_X10_needField ⟨w835, wp35⟩ w833 dX10_values_7 rfl (Nat.le_of_ble_eq_true rfl) rfl rfl rfl (Nat.le_of_ble_eq_true rfl) rfl ?_
  refine z_aload_n (pc := 10) hG 0 rfl rfl dX10_values_10 ?_
  refine z_iload_n (pc := 11) hG 2 rfl rfl dX10_values_11 ?_
  replace h := zbind h
  obtain ⟨w3 | e, hv3, h⟩ := h
  rotate_left
  · replace h := zel_r h
    obtain rfl := Option.some.inj h
    exact z_cvX (pc := 12) hG [.int a2] [] zc_X10 DL_0 (tX10_needSet hl0 a2 g hv3) zy_X10_needSet ⟨w1135, wp49⟩ w1133 dX10_values_12 rfl (Nat.le_of_ble_eq_true rfl) (Nat.le_of_ble_eq_true rfl) (Nat.le_of_ble_eq_true rfl) (Nat.le_of_ble_eq_true rfl) rfl hk
  replace h := zel_l h
  refine z_cvV (pc := 12) (A' := 0) (B' := 0) hG [.int a2] [] zc_X10 DL_0 (tX10_needSet hl0 a2 g hv3) zy_X10_needSet ⟨w1135, wp49⟩ w1133 dX10_values_12 rfl (Nat.le_of_ble_eq_true rfl) rfl rfl rfl (Nat.le_of_ble_eq_true rfl) rfl ?_
  refine z_aload_n (pc := 15) hG 0 rfl rfl dX10_values_15 ?_
  refine z_getr (pc := 16) hG zc_X10 inX10 DL_0 4 rfl (by decide) rfl w283 dX10_values_16 ?_
  refine z_aload_n (pc := 19) hG 0 rfl rfl dX10_values_19 ?_
  refine z_getr (pc := 20) hG zc_X10 inX10 DL_0 6 rfl (by decide) rfl w285 dX10_values_20 ?_
  refine z_iload_n (pc := 23) hG 1 rfl rfl dX10_values_23 ?_
  replace h := zbind h
  obtain ⟨v4, hv4, h⟩ := h
  refine z_cvI (pc := 24) (A' := 0) (B' := 0) hG [.int a1] [.ref 20] zc_X8 DL_31 (tX8_codeOf hl0 a1 g hv4) zy_X8_codeOf ⟨w992, w993⟩ w991 dX10_values_24 rfl (Nat.le_of_ble_eq_true rfl) rfl rfl rfl (Nat.le_of_ble_eq_true rfl) rfl ?_
  refine z_iload_n (pc := 27) hG 2 rfl rfl dX10_values_27 ?_
  refine z_iload_n (pc := 28) hG 3 rfl rfl dX10_values_28 ?_
  replace h := zbind h
  obtain ⟨v5, hv5, h⟩ := h
  refine z_cvI (pc := 29) (A' := 0) (B' := 0) hG [.int v4, .int a2, .int a3] [] zc_X5 DL_20 (tX5_valuesIn hl0 v4 a2 a3 g hv5) zy_X5_valuesIn ⟨w1079, w1080⟩ w1078 dX10_values_29 rfl (Nat.le_of_ble_eq_true rfl) rfl rfl rfl (Nat.le_of_ble_eq_true rfl) rfl ?_
  obtain rfl := Option.some.inj h
  exact z_iret (pc := 32) hG rfl rfl hk dX10_values_32
noncomputable def nX10_forced (a1 : Int32) (g : zS) : Option (Int32 ⊕ String) :=
  (nX10_needRow a1 g).bind fun v1 => zel v1 (fun w1 => (nX8_codeOf a1 g).bind fun v2 => (nX5_forcedIn v2 g).bind fun v3 => some (.inl v3)) (fun e => some (.inr e))
set_option maxHeartbeats 60000 in
theorem tX10_forced {l : Launch} (hl0 : l.flags = flags0) (a1 : Int32) (g : zS) {r : (Int32 ⊕ String)} (h : nX10_forced a1 g = some r) : zC l yX10_forced cX10_forced 2 ((Option.some Jvm.ClassFile.FieldType.int)) 9 1 6 [.ref 0, .int a1] zD g (ztI r, zD, g) := by
  refine zC_of hl0 rfl (Nat.le_of_ble_eq_true rfl) (fun x hG hxl hk _ => ?_)
  subst hxl
  show zK x 9 0 [(0, .ref 0), (1, .int a1)] [] zD g 1 6
  unfold nX10_forced at h
  refine z_aload_n (pc := 0) hG 0 rfl rfl dX10_forced_0 ?_
  refine z_iload_n (pc := 1) hG 1 rfl rfl dX10_forced_1 ?_
  replace h := zbind h
  obtain ⟨w1 | e, hv1, h⟩ := h
  rotate_left
  · replace h := zel_r h
    obtain rfl := Option.some.inj h
    exact z_cvX (pc := 2) hG [.int a1] [] zc_X10 DL_0 (tX10_needRow hl0 a1 g hv1) zy_X10_needRow ⟨w989, wp41⟩ w987 dX10_forced_2 rfl (Nat.le_of_ble_eq_true rfl) (Nat.le_of_ble_eq_true rfl) (Nat.le_of_ble_eq_true rfl) (Nat.le_of_ble_eq_true rfl) rfl hk
  replace h := zel_l h
  refine z_cvV (pc := 2) (A' := 0) (B' := 0) hG [.int a1] [] zc_X10 DL_0 (tX10_needRow hl0 a1 g hv1) zy_X10_needRow ⟨w989, wp41⟩ w987 dX10_forced_2 rfl (Nat.le_of_ble_eq_true rfl) rfl rfl rfl (Nat.le_of_ble_eq_true rfl) rfl ?_
  refine z_aload_n (pc := 5) hG 0 rfl rfl dX10_forced_5 ?_
  refine z_getr (pc := 6) hG zc_X10 inX10 DL_0 4 rfl (by decide) rfl w283 dX10_forced_6 ?_
  refine z_aload_n (pc := 9) hG 0 rfl rfl dX10_forced_9 ?_
  refine z_getr (pc := 10) hG zc_X10 inX10 DL_0 6 rfl (by decide) rfl w285 dX10_forced_10 ?_
  refine z_iload_n (pc := 13) hG 1 rfl rfl dX10_forced_13 ?_
  replace h := zbind h
  obtain ⟨v2, hv2, h⟩ := h
  refine z_cvI (pc := 14) (A' := 0) (B' := 0) hG [.int a1] [.ref 20] zc_X8 DL_31 (tX8_codeOf hl0 a1 g hv2) zy_X8_codeOf ⟨w992, w993⟩ w991 dX10_forced_14 rfl (Nat.le_of_ble_eq_true rfl) rfl rfl rfl (Nat.le_of_ble_eq_true rfl) rfl ?_
  replace h := zbind h
  obtain ⟨v3, hv3, h⟩ := h
  refine z_cvI (pc := 17) (A' := 0) (B' := 0) hG [.int v2] [] zc_X5 DL_20 (tX5_forcedIn hl0 v2 g hv3) zy_X5_forcedIn ⟨w1189, w1190⟩ w1188 dX10_forced_17 rfl (Nat.le_of_ble_eq_true rfl) rfl rfl rfl (Nat.le_of_ble_eq_true rfl) rfl ?_
  obtain rfl := Option.some.inj h
  exact z_iret (pc := 20) hG rfl rfl hk dX10_forced_20
noncomputable def nX10_urgent (a1 : Int32) (g : zS) : Option (Int32 × zS) :=
  (nX4_urgentAt a1 g).bind fun v1 => some ((v1.1, v1.2))
set_option maxHeartbeats 60000 in
theorem tX10_urgent {l : Launch} (hl0 : l.flags = flags0) (a1 : Int32) (g : zS) {r : (Int32 × zS)} (h : nX10_urgent a1 g = some r) : zC l yX10_urgent cX10_urgent 2 ((Option.some Jvm.ClassFile.FieldType.int)) 7 0 0 [.ref 0, .int a1] zD g (.inl (some (.int r.1)), zD, r.2) := by
  refine zC_of hl0 rfl (Nat.le_of_ble_eq_true rfl) (fun x hG hxl hk _ => ?_)
  subst hxl
  show zK x 7 0 [(0, .ref 0), (1, .int a1)] [] zD g 0 0
  unfold nX10_urgent at h
  refine z_aload_n (pc := 0) hG 0 rfl rfl dX10_urgent_0 ?_
  refine z_getr (pc := 1) hG zc_X10 inX10 DL_0 8 rfl (by decide) rfl w287 dX10_urgent_1 ?_
  refine z_iload_n (pc := 4) hG 1 rfl rfl dX10_urgent_4 ?_
  replace h := zbind h
  obtain ⟨v1, hv1, h⟩ := h
  refine z_cvI (pc := 5) (A' := 0) (B' := 0) hG [.int a1] [] zc_X4 DL_37 (tX4_urgentAt hl0 a1 g hv1) zy_X4_urgentAt ⟨w420, w421⟩ w419 dX10_urgent_5 rfl (Nat.le_of_ble_eq_true rfl) rfl rfl rfl (Nat.le_of_ble_eq_true rfl) rfl ?_
  obtain rfl := Option.some.inj h
  exact z_iret (pc := 8) hG rfl rfl hk dX10_urgent_8
noncomputable def nX10_donor (a1 : Int32) (a2 : Int32) (a3 : Int32) (g : zS) : Option ((Int32 ⊕ String) × zS) :=
  (nX10_needRow a1 g).bind fun v1 => zel v1 (fun w1 => (nX2_gather a1 g).bind fun v2 => if a3 = 0 then ((nX2_rowAt a2 v2).bind fun v3 => some ((.inl v3, v2))) else ((nX2_farAt a2 v2).bind fun v4 => some ((.inl v4, v2)))) (fun e => some ((.inr e, g)))
set_option maxHeartbeats 60000 in
theorem tX10_donor {l : Launch} (hl0 : l.flags = flags0) (a1 : Int32) (a2 : Int32) (a3 : Int32) (g : zS) {r : ((Int32 ⊕ String) × zS)} (h : nX10_donor a1 a2 a3 g = some r) : zC l yX10_donor cX10_donor 4 ((Option.some Jvm.ClassFile.FieldType.int)) 9 1 6 [.ref 0, .int a1, .int a2, .int a3] zD g (ztI r.1, zD, r.2) := by
  refine zC_of hl0 rfl (Nat.le_of_ble_eq_true rfl) (fun x hG hxl hk _ => ?_)
  subst hxl
  show zK x 9 0 [(0, .ref 0), (1, .int a1), (2, .int a2), (3, .int a3)] [] zD g 1 6
  unfold nX10_donor at h
  refine z_aload_n (pc := 0) hG 0 rfl rfl dX10_donor_0 ?_
  refine z_iload_n (pc := 1) hG 1 rfl rfl dX10_donor_1 ?_
  replace h := zbind h
  obtain ⟨w1 | e, hv1, h⟩ := h
  rotate_left
  · replace h := zel_r h
    obtain rfl := Option.some.inj h
    exact z_cvX (pc := 2) hG [.int a1] [] zc_X10 DL_0 (tX10_needRow hl0 a1 g hv1) zy_X10_needRow ⟨w989, wp41⟩ w987 dX10_donor_2 rfl (Nat.le_of_ble_eq_true rfl) (Nat.le_of_ble_eq_true rfl) (Nat.le_of_ble_eq_true rfl) (Nat.le_of_ble_eq_true rfl) rfl hk
  replace h := zel_l h
  refine z_cvV (pc := 2) (A' := 0) (B' := 0) hG [.int a1] [] zc_X10 DL_0 (tX10_needRow hl0 a1 g hv1) zy_X10_needRow ⟨w989, wp41⟩ w987 dX10_donor_2 rfl (Nat.le_of_ble_eq_true rfl) rfl rfl rfl (Nat.le_of_ble_eq_true rfl) rfl ?_
  refine z_aload_n (pc := 5) hG 0 rfl rfl dX10_donor_5 ?_
  refine z_getr (pc := 6) hG zc_X10 inX10 DL_0 7 rfl (by decide) rfl w286 dX10_donor_6 ?_
  refine z_iload_n (pc := 9) hG 1 rfl rfl dX10_donor_9 ?_
  replace h := zbind h
  obtain ⟨v2, hv2, h⟩ := h
  refine z_cvV (pc := 10) (A' := 0) (B' := 0) hG [.int a1] [] zc_X2 DL_34 (tX2_gather hl0 a1 g hv2) zy_X2_gather ⟨w1201, w1202⟩ w1200 dX10_donor_10 rfl (Nat.le_of_ble_eq_true rfl) rfl rfl rfl (Nat.le_of_ble_eq_true rfl) rfl ?_
  refine z_iload_n (pc := 13) hG 3 rfl rfl dX10_donor_13 ?_
  refine z_if_eq (pc := 14) (tgt := 28) hG dX10_donor_14 rfl (fun hc => ?_) (fun hc => ?_)
  · replace h := zif_t hc h
    refine z_aload_n (pc := 28) hG 0 rfl rfl dX10_donor_28 ?_
    refine z_getr (pc := 29) hG zc_X10 inX10 DL_0 7 rfl (by decide) rfl w286 dX10_donor_29 ?_
    refine z_iload_n (pc := 32) hG 2 rfl rfl dX10_donor_32 ?_
    replace h := zbind h
    obtain ⟨v3, hv3, h⟩ := h
    refine z_cvI (pc := 33) (A' := 0) (B' := 0) hG [.int a2] [] zc_X2 DL_34 (tX2_rowAt hl0 a2 v2 hv3) zy_X2_rowAt ⟨w1242, w1243⟩ w1241 dX10_donor_33 rfl (Nat.le_of_ble_eq_true rfl) rfl rfl rfl (Nat.le_of_ble_eq_true rfl) rfl ?_
    obtain rfl := Option.some.inj h
    exact z_iret (pc := 36) hG rfl rfl hk dX10_donor_36
  · replace h := zif_f hc h
    refine z_aload_n (pc := 17) hG 0 rfl rfl dX10_donor_17 ?_
    refine z_getr (pc := 18) hG zc_X10 inX10 DL_0 7 rfl (by decide) rfl w286 dX10_donor_18 ?_
    refine z_iload_n (pc := 21) hG 2 rfl rfl dX10_donor_21 ?_
    replace h := zbind h
    obtain ⟨v4, hv4, h⟩ := h
    refine z_cvI (pc := 22) (A' := 0) (B' := 0) hG [.int a2] [] zc_X2 DL_34 (tX2_farAt hl0 a2 v2 hv4) zy_X2_farAt ⟨w1238, w1239⟩ w1237 dX10_donor_22 rfl (Nat.le_of_ble_eq_true rfl) rfl rfl rfl (Nat.le_of_ble_eq_true rfl) rfl ?_
    refine z_goto (pc := 25) (tgt := 36) hG dX10_donor_25 rfl ?_
    obtain rfl := Option.some.inj h
    exact z_iret (pc := 36) hG rfl rfl hk dX10_donor_36
noncomputable def jX10_needWay_9  : Option (Unit ⊕ String) :=
  some (.inr "java/lang/IllegalArgumentException")
noncomputable def nX10_needWay (a1 : Int32) : Option (Unit ⊕ String) :=
  if a1 < 0 then (jX10_needWay_9 ) else (if a1 ≤ (2 : Int32) then (some (.inl ())) else (jX10_needWay_9 ))
set_option maxHeartbeats 60000 in
theorem kjX10_needWay_9 {x : zXx} (hG : zG x cX10_needWay 2 RX10 ((Option.none : Option Jvm.ClassFile.FieldType))) (hl0 : (zl0 x).flags = flags0) (g : zS) {o : (Unit ⊕ String)} (h : jX10_needWay_9  = some o) (hk : ztg x = (ztV o, zD, g)) : zK x 8 9 [] [] zD g 1 6 := by
  unfold jX10_needWay_9 at h
  obtain rfl := Option.some.inj h
  exact z_throw (pc := 9) hG (by decide) (by decide) w713 w19 hatRX10_112 hbdRX10_112 hgdRX10_112 (by decide) (Nat.le_of_ble_eq_true rfl) (Nat.le_of_ble_eq_true rfl) (Nat.le_of_ble_eq_true rfl) (Nat.le_of_ble_eq_true rfl) dX10_needWay_9 dX10_needWay_12 dX10_needWay_13 dX10_needWay_16 hk
set_option maxHeartbeats 60000 in
theorem tX10_needWay {l : Launch} (hl0 : l.flags = flags0) (a1 : Int32) (g : zS) {r : (Unit ⊕ String)} (h : nX10_needWay a1 = some r) : zC l yX10_needWay cX10_needWay 2 ((Option.none : Option Jvm.ClassFile.FieldType)) 8 1 6 [.ref 0, .int a1] zD g (ztV r, zD, g) := by
  refine zC_of hl0 rfl (Nat.le_of_ble_eq_true rfl) (fun x hG hxl hk _ => ?_)
  subst hxl
  show zK x 8 0 [(0, .ref 0), (1, .int a1)] [] zD g 1 6
  unfold nX10_needWay at h
  refine z_iload_n (pc := 0) hG 1 rfl rfl dX10_needWay_0 ?_
  refine z_if_lt (pc := 1) (tgt := 9) hG dX10_needWay_1 rfl (fun hc => ?_) (fun hc => ?_)
  · replace h := zif_t hc h
    refine z_sub (ls' := []) [] rfl ?_
    exact kjX10_needWay_9 hG hl0 g h hk
  · replace h := zif_f hc h
    refine z_iload_n (pc := 4) hG 1 rfl rfl dX10_needWay_4 ?_
    refine z_iconst (pc := 5) hG kc_2 dX10_needWay_5 ?_
    refine z_icmp_le (pc := 6) (tgt := 17) hG dX10_needWay_6 rfl (fun hc => ?_) (fun hc => ?_)
    · replace h := zif_t hc h
      obtain rfl := Option.some.inj h
      exact z_vret (pc := 17) hG rfl hk dX10_needWay_17
    · replace h := zif_f hc h
      refine z_sub (ls' := []) [] rfl ?_
      exact kjX10_needWay_9 hG hl0 g h hk
noncomputable def nX10_would (a1 : Int32) (a2 : Int32) (g : zS) : Option ((Int32 ⊕ String) × zS) :=
  (nX10_needRow a1 g).bind fun v1 => zel v1 (fun w1 => (nX10_needWay a2).bind fun v2 => zel v2 (fun w2 => (nX2_mended a1 a2 g).bind fun v3 => if v3.1 = (-1 : Int32) then (some ((.inl (-1 : Int32), v3.2))) else ((nX1_toDigits v3.1 (v3.2.1 3 0)).bind fun v4 => some ((.inl v4, v3.2)))) (fun e => some ((.inr e, g)))) (fun e => some ((.inr e, g)))
set_option maxHeartbeats 60000 in
theorem tX10_would {l : Launch} (hl0 : l.flags = flags0) (a1 : Int32) (a2 : Int32) (g : zS) {r : ((Int32 ⊕ String) × zS)} (h : nX10_would a1 a2 g = some r) : zC l yX10_would cX10_would 4 ((Option.some Jvm.ClassFile.FieldType.int)) 9 2 12 [.ref 0, .int a1, .int a2] zD g (ztI r.1, zD, r.2) := by
  refine zC_of hl0 rfl (Nat.le_of_ble_eq_true rfl) (fun x hG hxl hk _ => ?_)
  subst hxl
  show zK x 9 0 [(0, .ref 0), (1, .int a1), (2, .int a2)] [] zD g 2 12
  unfold nX10_would at h
  refine z_aload_n (pc := 0) hG 0 rfl rfl dX10_would_0 ?_
  refine z_iload_n (pc := 1) hG 1 rfl rfl dX10_would_1 ?_
  replace h := zbind h
  obtain ⟨w1 | e, hv1, h⟩ := h
  rotate_left
  · replace h := zel_r h
    obtain rfl := Option.some.inj h
    exact z_cvX (pc := 2) hG [.int a1] [] zc_X10 DL_0 (tX10_needRow hl0 a1 g hv1) zy_X10_needRow ⟨w989, wp41⟩ w987 dX10_would_2 rfl (Nat.le_of_ble_eq_true rfl) (Nat.le_of_ble_eq_true rfl) (Nat.le_of_ble_eq_true rfl) (Nat.le_of_ble_eq_true rfl) rfl hk
  replace h := zel_l h
  refine z_cvV (pc := 2) (A' := 1) (B' := 6) hG [.int a1] [] zc_X10 DL_0 (tX10_needRow hl0 a1 g hv1) zy_X10_needRow ⟨w989, wp41⟩ w987 dX10_would_2 rfl (Nat.le_of_ble_eq_true rfl) rfl rfl rfl (Nat.le_of_ble_eq_true rfl) rfl ?_
  refine z_aload_n (pc := 5) hG 0 rfl rfl dX10_would_5 ?_
  refine z_iload_n (pc := 6) hG 2 rfl rfl dX10_would_6 ?_
  replace h := zbind h
  obtain ⟨w2 | e, hv2, h⟩ := h
  rotate_left
  · replace h := zel_r h
    obtain rfl := Option.some.inj h
    exact z_cvX (pc := 7) hG [.int a2] [] zc_X10 DL_0 (tX10_needWay hl0 a2 g hv2) zy_X10_needWay ⟨w1254, wp54⟩ w1252 dX10_would_7 rfl (Nat.le_of_ble_eq_true rfl) (Nat.le_of_ble_eq_true rfl) (Nat.le_of_ble_eq_true rfl) (Nat.le_of_ble_eq_true rfl) rfl hk
  replace h := zel_l h
  refine z_cvV (pc := 7) (A' := 0) (B' := 0) hG [.int a2] [] zc_X10 DL_0 (tX10_needWay hl0 a2 g hv2) zy_X10_needWay ⟨w1254, wp54⟩ w1252 dX10_would_7 rfl (Nat.le_of_ble_eq_true rfl) rfl rfl rfl (Nat.le_of_ble_eq_true rfl) rfl ?_
  refine z_aload_n (pc := 10) hG 0 rfl rfl dX10_would_10 ?_
  refine z_getr (pc := 11) hG zc_X10 inX10 DL_0 7 rfl (by decide) rfl w286 dX10_would_11 ?_
  refine z_iload_n (pc := 14) hG 1 rfl rfl dX10_would_14 ?_
  refine z_iload_n (pc := 15) hG 2 rfl rfl dX10_would_15 ?_
  replace h := zbind h
  obtain ⟨v3, hv3, h⟩ := h
  refine z_cvI (pc := 16) (A' := 0) (B' := 0) hG [.int a1, .int a2] [] zc_X2 DL_34 (tX2_mended hl0 a1 a2 g hv3) zy_X2_mended ⟨w1257, w1258⟩ w1256 dX10_would_16 rfl (Nat.le_of_ble_eq_true rfl) rfl rfl rfl (Nat.le_of_ble_eq_true rfl) rfl ?_
  refine z_istore_n (pc := 19) (ls' := [(3, .int v3.1), (0, .ref 0), (1, .int a1), (2, .int a2)]) hG [0, 1, 2, 3] rfl (by decide) rfl dX10_would_19 ?_
  refine z_iload_n (pc := 20) hG 0 rfl rfl dX10_would_20 ?_
  refine z_iconst (pc := 21) hG kc_m1 dX10_would_21 ?_
  refine z_icmp_ne (pc := 22) (tgt := 29) hG dX10_would_22 rfl (fun hc => ?_) (fun hc => ?_)
  · replace h := zif_f hc h
    refine z_iload_n (pc := 29) hG 0 rfl rfl dX10_would_29 ?_
    refine z_aload_n (pc := 30) hG 1 rfl rfl dX10_would_30 ?_
    refine z_getr (pc := 31) hG zc_X10 inX10 DL_0 1 rfl (by decide) rfl w280 dX10_would_31 ?_
    refine z_geti (pc := 34) hG zc_X6 inX6 DL_3 0 rfl (by decide) rfl w63 dX10_would_34 ?_
    replace h := zbind h
    obtain ⟨v4, hv4, h⟩ := h
    refine z_csI (pc := 37) (A' := 0) (B' := 0) hG [.int v3.1, .int (v3.2.1 3 0)] [] (tX1_toDigits hl0 v3.1 (v3.2.1 3 0) v3.2 hv4) zy_X1_toDigits w1279 w1278 dX10_would_37 rfl (Nat.le_of_ble_eq_true rfl) rfl rfl rfl (Nat.le_of_ble_eq_true rfl) rfl ?_
    obtain rfl := Option.some.inj h
    exact z_iret (pc := 40) hG rfl rfl hk dX10_would_40
  · replace h := zif_t hc h
    refine z_iconst (pc := 25) hG kc_m1 dX10_would_25 ?_
    refine z_goto (pc := 26) (tgt := 40) hG dX10_would_26 rfl ?_
    obtain rfl := Option.some.inj h
    exact z_iret (pc := 40) hG rfl rfl hk dX10_would_40
noncomputable def jX10_mend_43 (a1 : Int32) (a3 : Int32) (s0 : Int32) (g : zS) : Option ((Int32 ⊕ String) × zS) :=
  if s0 = (-1 : Int32) then (some ((.inr "java/lang/IllegalStateException", g))) else ((nX8_remember g).bind fun v6 => zchk (zin a1 40) ((nX1_unlikeFields a3 s0).bind fun v7 => (nJ6_bitCount_0f7a4 v7).bind fun v8 => some ((.inl v8, (zi v6 32 a1.toNatClampNeg s0)))))
noncomputable def nX10_mend (a1 : Int32) (a2 : Int32) (g : zS) : Option ((Int32 ⊕ String) × zS) :=
  (nX10_needRow a1 g).bind fun v1 => zel v1 (fun w1 => (nX10_needWay a2).bind fun v2 => zel v2 (fun w2 => (nX8_codeOf a1 g).bind fun v3 => (nX5_isRight v3 g).bind fun v4 => if v4 = 0 then ((nX2_mended a1 a2 g).bind fun v5 => jX10_mend_43 a1 v3 v5.1 v5.2) else (jX10_mend_43 a1 v3 (-1 : Int32) g)) (fun e => some ((.inr e, g)))) (fun e => some ((.inr e, g)))
set_option maxHeartbeats 60000 in
theorem kjX10_mend_43 {x : zXx} (hG : zG x cX10_mend 5 RX10 ((Option.some Jvm.ClassFile.FieldType.int))) (hl0 : (zl0 x).flags = flags0) (a1 : Int32) (a3 : Int32) (s0 : Int32) (g : zS) {o : ((Int32 ⊕ String) × zS)} (h : jX10_mend_43 a1 a3 s0 g = some o) (hk : ztg x = (ztI o.1, zD, o.2)) : zK x 9 43 [(0, .ref 0), (1, .int a1), (3, .int a3)] [.int s0] zD g 1 6 := by
  unfold jX10_mend_43 at h
  refine z_istore (pc := 43) (ls' := [(4, .int s0), (0, .ref 0), (1, .int a1), (3, .int a3)]) hG [0, 1, 2, 3] (by decide) rfl dX10_mend_43 ?_
  refine z_iload (pc := 45) hG 0 rfl dX10_mend_45 ?_
  refine z_iconst (pc := 47) hG kc_m1 dX10_mend_47 ?_
  refine z_icmp_ne (pc := 48) (tgt := 59) hG dX10_mend_48 rfl (fun hc => ?_) (fun hc => ?_)
  · replace h := zif_f hc h
    refine z_aload_n (pc := 59) hG 1 rfl rfl dX10_mend_59 ?_
    refine z_getr (pc := 60) hG zc_X10 inX10 DL_0 6 rfl (by decide) rfl w285 dX10_mend_60 ?_
    replace h := zbind h
    obtain ⟨v6, hv6, h⟩ := h
    refine z_cvV (pc := 63) (A' := 1) (B' := 6) hG [] [] zc_X8 DL_31 (tX8_remember hl0  g hv6) zy_X8_remember ⟨w1008, w1009⟩ w1007 dX10_mend_63 rfl (Nat.le_of_ble_eq_true rfl) rfl rfl rfl (Nat.le_of_ble_eq_true rfl) rfl ?_
    refine z_aload_n (pc := 66) hG 1 rfl rfl dX10_mend_66 ?_
    refine z_getr (pc := 67) hG zc_X10 inX10 DL_0 6 rfl (by decide) rfl w285 dX10_mend_67 ?_
    refine z_getr (pc := 70) hG zc_X8 inX8 DL_31 0 rfl (by decide) rfl w215 dX10_mend_70 ?_
    refine z_iload_n (pc := 73) hG 2 rfl rfl dX10_mend_73 ?_
    refine z_iload (pc := 74) hG 0 rfl dX10_mend_74 ?_
    replace h := zchk_some h
    obtain ⟨hc, h⟩ := h
    refine z_iast (pc := 76) hG DL_32 (zin_in hc) dX10_mend_76 ?_
    refine z_iload_n (pc := 77) hG 3 rfl rfl dX10_mend_77 ?_
    refine z_iload (pc := 78) hG 0 rfl dX10_mend_78 ?_
    replace h := zbind h
    obtain ⟨v7, hv7, h⟩ := h
    refine z_csI (pc := 80) (A' := 1) (B' := 6) hG [.int a3, .int s0] [] (tX1_unlikeFields hl0 a3 s0 (zi v6 32 a1.toNatClampNeg s0) hv7) zy_X1_unlikeFields w1290 w1289 dX10_mend_80 rfl (Nat.le_of_ble_eq_true rfl) rfl rfl rfl (Nat.le_of_ble_eq_true rfl) rfl ?_
    replace h := zbind h
    obtain ⟨v8, hv8, h⟩ := h
    refine z_csI (pc := 83) (A' := 1) (B' := 6) hG [.int v7] [] (tJ6_bitCount_0f7a4 hl0 v7 (zi v6 32 a1.toNatClampNeg s0) hv8) zy_J6_bitCount_0f7a4 w474 w1292 dX10_mend_83 rfl (Nat.le_of_ble_eq_true rfl) rfl rfl rfl (Nat.le_of_ble_eq_true rfl) rfl ?_
    obtain rfl := Option.some.inj h
    exact z_iret (pc := 86) hG rfl rfl hk dX10_mend_86
  · replace h := zif_t hc h
    obtain rfl := Option.some.inj h
    exact z_throw (pc := 51) hG (by decide) (by decide) w1020 w27 hatRX10_222 hbdRX10_222 hgdRX10_222 (by decide) (Nat.le_of_ble_eq_true rfl) (Nat.le_of_ble_eq_true rfl) (Nat.le_of_ble_eq_true rfl) (Nat.le_of_ble_eq_true rfl) dX10_mend_51 dX10_mend_54 dX10_mend_55 dX10_mend_58 hk
set_option maxHeartbeats 60000 in
theorem tX10_mend {l : Launch} (hl0 : l.flags = flags0) (a1 : Int32) (a2 : Int32) (g : zS) {r : ((Int32 ⊕ String) × zS)} (h : nX10_mend a1 a2 g = some r) : zC l yX10_mend cX10_mend 5 ((Option.some Jvm.ClassFile.FieldType.int)) 9 3 18 [.ref 0, .int a1, .int a2] zD g (ztI r.1, zD, r.2) := by
  refine zC_of hl0 rfl (Nat.le_of_ble_eq_true rfl) (fun x hG hxl hk _ => ?_)
  subst hxl
  show zK x 9 0 [(0, .ref 0), (1, .int a1), (2, .int a2)] [] zD g 3 18
  unfold nX10_mend at h
  refine z_aload_n (pc := 0) hG 0 rfl rfl dX10_mend_0 ?_
  refine z_iload_n (pc := 1) hG 1 rfl rfl dX10_mend_1 ?_
  replace h := zbind h
  obtain ⟨w1 | e, hv1, h⟩ := h
  rotate_left
  · replace h := zel_r h
    obtain rfl := Option.some.inj h
    exact z_cvX (pc := 2) hG [.int a1] [] zc_X10 DL_0 (tX10_needRow hl0 a1 g hv1) zy_X10_needRow ⟨w989, wp41⟩ w987 dX10_mend_2 rfl (Nat.le_of_ble_eq_true rfl) (Nat.le_of_ble_eq_true rfl) (Nat.le_of_ble_eq_true rfl) (Nat.le_of_ble_eq_true rfl) rfl hk
  replace h := zel_l h
  refine z_cvV (pc := 2) (A' := 2) (B' := 12) hG [.int a1] [] zc_X10 DL_0 (tX10_needRow hl0 a1 g hv1) zy_X10_needRow ⟨w989, wp41⟩ w987 dX10_mend_2 rfl (Nat.le_of_ble_eq_true rfl) rfl rfl rfl (Nat.le_of_ble_eq_true rfl) rfl ?_
  refine z_aload_n (pc := 5) hG 0 rfl rfl dX10_mend_5 ?_
  refine z_iload_n (pc := 6) hG 2 rfl rfl dX10_mend_6 ?_
  replace h := zbind h
  obtain ⟨w2 | e, hv2, h⟩ := h
  rotate_left
  · replace h := zel_r h
    obtain rfl := Option.some.inj h
    exact z_cvX (pc := 7) hG [.int a2] [] zc_X10 DL_0 (tX10_needWay hl0 a2 g hv2) zy_X10_needWay ⟨w1254, wp54⟩ w1252 dX10_mend_7 rfl (Nat.le_of_ble_eq_true rfl) (Nat.le_of_ble_eq_true rfl) (Nat.le_of_ble_eq_true rfl) (Nat.le_of_ble_eq_true rfl) rfl hk
  replace h := zel_l h
  refine z_cvV (pc := 7) (A' := 1) (B' := 6) hG [.int a2] [] zc_X10 DL_0 (tX10_needWay hl0 a2 g hv2) zy_X10_needWay ⟨w1254, wp54⟩ w1252 dX10_mend_7 rfl (Nat.le_of_ble_eq_true rfl) rfl rfl rfl (Nat.le_of_ble_eq_true rfl) rfl ?_
  refine z_aload_n (pc := 10) hG 0 rfl rfl dX10_mend_10 ?_
  refine z_getr (pc := 11) hG zc_X10 inX10 DL_0 6 rfl (by decide) rfl w285 dX10_mend_11 ?_
  refine z_iload_n (pc := 14) hG 1 rfl rfl dX10_mend_14 ?_
  replace h := zbind h
  obtain ⟨v3, hv3, h⟩ := h
  refine z_cvI (pc := 15) (A' := 1) (B' := 6) hG [.int a1] [] zc_X8 DL_31 (tX8_codeOf hl0 a1 g hv3) zy_X8_codeOf ⟨w992, w993⟩ w991 dX10_mend_15 rfl (Nat.le_of_ble_eq_true rfl) rfl rfl rfl (Nat.le_of_ble_eq_true rfl) rfl ?_
  refine z_istore_n (pc := 18) (ls' := [(3, .int v3), (0, .ref 0), (1, .int a1), (2, .int a2)]) hG [0, 1, 2, 3] rfl (by decide) rfl dX10_mend_18 ?_
  refine z_aload_n (pc := 19) hG 1 rfl rfl dX10_mend_19 ?_
  refine z_getr (pc := 20) hG zc_X10 inX10 DL_0 4 rfl (by decide) rfl w283 dX10_mend_20 ?_
  refine z_iload_n (pc := 23) hG 0 rfl rfl dX10_mend_23 ?_
  replace h := zbind h
  obtain ⟨v4, hv4, h⟩ := h
  refine z_cvI (pc := 24) (A' := 1) (B' := 6) hG [.int v3] [] zc_X5 DL_20 (tX5_isRight hl0 v3 g hv4) zy_X5_isRight ⟨w428, w429⟩ w1288 dX10_mend_24 rfl (Nat.le_of_ble_eq_true rfl) rfl rfl rfl (Nat.le_of_ble_eq_true rfl) rfl ?_
  refine z_if_eq (pc := 27) (tgt := 34) hG dX10_mend_27 rfl (fun hc => ?_) (fun hc => ?_)
  · replace h := zif_t hc h
    refine z_aload_n (pc := 34) hG 1 rfl rfl dX10_mend_34 ?_
    refine z_getr (pc := 35) hG zc_X10 inX10 DL_0 7 rfl (by decide) rfl w286 dX10_mend_35 ?_
    refine z_iload_n (pc := 38) hG 2 rfl rfl dX10_mend_38 ?_
    refine z_iload_n (pc := 39) hG 3 rfl rfl dX10_mend_39 ?_
    replace h := zbind h
    obtain ⟨v5, hv5, h⟩ := h
    refine z_cvI (pc := 40) (A' := 1) (B' := 6) hG [.int a1, .int a2] [] zc_X2 DL_34 (tX2_mended hl0 a1 a2 g hv5) zy_X2_mended ⟨w1257, w1258⟩ w1256 dX10_mend_40 rfl (Nat.le_of_ble_eq_true rfl) rfl rfl rfl (Nat.le_of_ble_eq_true rfl) rfl ?_
    refine z_sub (ls' := [(0, .ref 0), (1, .int a1), (3, .int v3)]) [1, 2, 0] rfl ?_
    exact kjX10_mend_43 hG hl0 a1 v3 v5.1 v5.2 h hk
  · replace h := zif_f hc h
    refine z_iconst (pc := 30) hG kc_m1 dX10_mend_30 ?_
    refine z_goto (pc := 31) (tgt := 43) hG dX10_mend_31 rfl ?_
    refine z_sub (ls' := [(0, .ref 0), (1, .int a1), (3, .int v3)]) [1, 2, 0] rfl ?_
    exact kjX10_mend_43 hG hl0 a1 v3 (-1 : Int32) g h hk
noncomputable def jX10_mendAside_58 (a1 : Int32) (a2 : Int32) (a3 : Int32) (a4 : Int32) (a5 : Int32) (g : zS) : Option ((Int32 × Int32 × zS) ⊕ (Int32 × zS)) :=
  if a5 = (-1 : Int32) then (zchk (zin a3 40) (some (.inl (a2, (a3 + (1 : Int32)), (zi g 40 a3.toNatClampNeg a4))))) else (zchk (zin a3 40) (some (.inl (a2, (a3 + (1 : Int32)), (zi g 40 a3.toNatClampNeg a5)))))
noncomputable def wX10_mendAside_4 (a1 : Int32) (s : (Int32 × Int32 × zS)) : Option ((Int32 × Int32 × zS) ⊕ (Int32 × zS)) :=
  if (s.2.2.1 31 1) ≤ s.2.1 then (zex (some ((s.1, s.2.2)))) else (zchk (zin s.2.1 40) ((nX2_mended s.2.1 a1 s.2.2).bind fun v1 => if v1.1 = (-1 : Int32) then (jX10_mendAside_58 a1 s.1 s.2.1 (s.2.2.1 32 s.2.1.toNatClampNeg) v1.1 v1.2) else ((nX5_isRight (s.2.2.1 32 s.2.1.toNatClampNeg) v1.2).bind fun v2 => if v2 = 0 then (jX10_mendAside_58 a1 (s.1 + (1 : Int32)) s.2.1 (s.2.2.1 32 s.2.1.toNatClampNeg) v1.1 v1.2) else (jX10_mendAside_58 a1 s.1 s.2.1 (s.2.2.1 32 s.2.1.toNatClampNeg) v1.1 v1.2))))
noncomputable def nX10_mendAside (a1 : Int32) (g : zS) : Option (Int32 × zS) :=
  wh (wX10_mendAside_4 a1) ((0 : Int32), (0 : Int32), g)
def qX10_mendAside_4 (x : zXx) (a1 : Int32) (o : (Int32 × Int32 × zS) ⊕ (Int32 × zS)) : Prop := match o with
  | .inl s => zK x 6 4 [(0, .ref 0), (1, .int a1), (2, .int s.1), (3, .int s.2.1)] [] zD s.2.2 0 0
  | .inr r => ztg x = (.inl (some (.int r.1)), zD, r.2)
set_option maxHeartbeats 60000 in
theorem kjX10_mendAside_58 {x : zXx} (hG : zG x cX10_mendAside 6 RX10 ((Option.some Jvm.ClassFile.FieldType.int))) (hl0 : (zl0 x).flags = flags0) (a1 : Int32) (a2 : Int32) (a3 : Int32) (a4 : Int32) (a5 : Int32) (g : zS) {o : ((Int32 × Int32 × zS) ⊕ (Int32 × zS))} (h : jX10_mendAside_58 a1 a2 a3 a4 a5 g = some o) (hk : qX10_mendAside_4 x a1 o) : zK x 6 58 [(0, .ref 0), (1, .int a1), (2, .int a2), (3, .int a3), (4, .int a4), (5, .int a5)] [] zD g 0 0 := by
  unfold jX10_mendAside_58 at h
  refine z_aload_n (pc := 58) hG 0 rfl rfl dX10_mendAside_58 ?_
  refine z_getr (pc := 59) hG zc_X10 inX10 DL_0 9 rfl (by decide) rfl w288 dX10_mendAside_59 ?_
  refine z_iload_n (pc := 62) hG 3 rfl rfl dX10_mendAside_62 ?_
  refine z_iload (pc := 63) hG 5 rfl dX10_mendAside_63 ?_
  refine z_iconst (pc := 65) hG kc_m1 dX10_mendAside_65 ?_
  refine z_icmp_ne (pc := 66) (tgt := 74) hG dX10_mendAside_66 rfl (fun hc => ?_) (fun hc => ?_)
  · replace h := zif_f hc h
    refine z_iload (pc := 74) hG 5 rfl dX10_mendAside_74 ?_
    replace h := zchk_some h
    obtain ⟨hc, h⟩ := h
    refine z_iast (pc := 76) hG DL_40 (zin_in hc) dX10_mendAside_76 ?_
    refine z_iinc (pc := 77) (ls' := [(3, .int (a3 + (1 : Int32))), (0, .ref 0), (1, .int a1), (2, .int a2), (4, .int a4), (5, .int a5)]) hG 3 rfl [0, 1, 2, 3, 4, 5] (ki_1 _) (by decide) rfl dX10_mendAside_77 ?_
    refine z_goto (pc := 80) (tgt := 4) hG dX10_mendAside_80 rfl ?_
    obtain rfl := Option.some.inj h
    refine z_sub (ls' := [(0, .ref 0), (1, .int a1), (2, .int a2), (3, .int (a3 + (1 : Int32)))]) [1, 2, 3, 0] rfl ?_
    exact hk
  · replace h := zif_t hc h
    refine z_iload (pc := 69) hG 4 rfl dX10_mendAside_69 ?_
    refine z_goto (pc := 71) (tgt := 76) hG dX10_mendAside_71 rfl ?_
    replace h := zchk_some h
    obtain ⟨hc, h⟩ := h
    refine z_iast (pc := 76) hG DL_40 (zin_in hc) dX10_mendAside_76 ?_
    refine z_iinc (pc := 77) (ls' := [(3, .int (a3 + (1 : Int32))), (0, .ref 0), (1, .int a1), (2, .int a2), (4, .int a4), (5, .int a5)]) hG 3 rfl [0, 1, 2, 3, 4, 5] (ki_1 _) (by decide) rfl dX10_mendAside_77 ?_
    refine z_goto (pc := 80) (tgt := 4) hG dX10_mendAside_80 rfl ?_
    obtain rfl := Option.some.inj h
    refine z_sub (ls' := [(0, .ref 0), (1, .int a1), (2, .int a2), (3, .int (a3 + (1 : Int32)))]) [1, 2, 3, 0] rfl ?_
    exact hk
set_option maxHeartbeats 60000 in
theorem kwX10_mendAside_4 {x : zXx} (hG : zG x cX10_mendAside 6 RX10 ((Option.some Jvm.ClassFile.FieldType.int))) (hl0 : (zl0 x).flags = flags0) (a1 : Int32) {o : (Int32 × zS)} (hk : ztg x = (.inl (some (.int o.1)), zD, o.2)) : ∀ s : (Int32 × Int32 × zS), wh (wX10_mendAside_4 a1) s = some o → zK x 6 4 [(0, .ref 0), (1, .int a1), (2, .int s.1), (3, .int s.2.1)] [] zD s.2.2 0 0 := by
  refine wh_ind (fun s : (Int32 × Int32 × zS) => zK x 6 4 [(0, .ref 0), (1, .int a1), (2, .int s.1), (3, .int s.2.1)] [] zD s.2.2 0 0) (fun s o h hk2 => ?_)
  replace hk : qX10_mendAside_4 x a1 o := by
    cases o with
    | inl s => exact hk2
    | inr r => subst hk2; exact hk
  clear hk2
  unfold wX10_mendAside_4 at h
  refine z_iload_n (pc := 4) hG 3 rfl rfl dX10_mendAside_4 ?_
  refine z_aload_n (pc := 5) hG 0 rfl rfl dX10_mendAside_5 ?_
  refine z_getr (pc := 6) hG zc_X10 inX10 DL_0 6 rfl (by decide) rfl w285 dX10_mendAside_6 ?_
  refine z_geti (pc := 9) hG zc_X8 inX8 DL_31 1 rfl (by decide) rfl w219 dX10_mendAside_9 ?_
  refine z_icmp_ge (pc := 12) (tgt := 83) hG dX10_mendAside_12 rfl (fun hc => ?_) (fun hc => ?_)
  · replace h := zif_t hc h
    replace h := zex_some h
    obtain ⟨o, h, rfl⟩ := h
    refine z_iload_n (pc := 83) hG 2 rfl rfl dX10_mendAside_83 ?_
    obtain rfl := Option.some.inj h
    exact z_iret (pc := 84) hG rfl rfl hk dX10_mendAside_84
  · replace h := zif_f hc h
    refine z_aload_n (pc := 15) hG 0 rfl rfl dX10_mendAside_15 ?_
    refine z_getr (pc := 16) hG zc_X10 inX10 DL_0 6 rfl (by decide) rfl w285 dX10_mendAside_16 ?_
    refine z_getr (pc := 19) hG zc_X8 inX8 DL_31 0 rfl (by decide) rfl w215 dX10_mendAside_19 ?_
    refine z_iload_n (pc := 22) hG 3 rfl rfl dX10_mendAside_22 ?_
    replace h := zchk_some h
    obtain ⟨hc, h⟩ := h
    refine z_iald (pc := 23) hG DL_32 (zin_in hc) dX10_mendAside_23 ?_
    refine z_istore (pc := 24) (ls' := [(4, .int (s.2.2.1 32 s.2.1.toNatClampNeg)), (0, .ref 0), (1, .int a1), (2, .int s.1), (3, .int s.2.1)]) hG [0, 1, 2, 3, 4] (by decide) rfl dX10_mendAside_24 ?_
    refine z_aload_n (pc := 26) hG 1 rfl rfl dX10_mendAside_26 ?_
    refine z_getr (pc := 27) hG zc_X10 inX10 DL_0 7 rfl (by decide) rfl w286 dX10_mendAside_27 ?_
    refine z_iload_n (pc := 30) hG 4 rfl rfl dX10_mendAside_30 ?_
    refine z_iload_n (pc := 31) hG 2 rfl rfl dX10_mendAside_31 ?_
    replace h := zbind h
    obtain ⟨v1, hv1, h⟩ := h
    refine z_cvI (pc := 32) (A' := 0) (B' := 0) hG [.int s.2.1, .int a1] [] zc_X2 DL_34 (tX2_mended hl0 s.2.1 a1 s.2.2 hv1) zy_X2_mended ⟨w1257, w1258⟩ w1256 dX10_mendAside_32 rfl (Nat.le_of_ble_eq_true rfl) rfl rfl rfl (Nat.le_of_ble_eq_true rfl) rfl ?_
    refine z_istore (pc := 35) (ls' := [(5, .int v1.1), (4, .int (s.2.2.1 32 s.2.1.toNatClampNeg)), (0, .ref 0), (1, .int a1), (2, .int s.1), (3, .int s.2.1)]) hG [0, 1, 2, 3, 4, 5] (by decide) rfl dX10_mendAside_35 ?_
    refine z_iload (pc := 37) hG 0 rfl dX10_mendAside_37 ?_
    refine z_iconst (pc := 39) hG kc_m1 dX10_mendAside_39 ?_
    refine z_icmp_eq (pc := 40) (tgt := 58) hG dX10_mendAside_40 rfl (fun hc => ?_) (fun hc => ?_)
    · replace h := zif_t hc h
      refine z_sub (ls' := [(0, .ref 0), (1, .int a1), (2, .int s.1), (3, .int s.2.1), (4, .int (s.2.2.1 32 s.2.1.toNatClampNeg)), (5, .int v1.1)]) [2, 3, 4, 5, 1, 0] rfl ?_
      exact kjX10_mendAside_58 hG hl0 a1 s.1 s.2.1 (s.2.2.1 32 s.2.1.toNatClampNeg) v1.1 v1.2 h hk
    · replace h := zif_f hc h
      refine z_aload_n (pc := 43) hG 2 rfl rfl dX10_mendAside_43 ?_
      refine z_getr (pc := 44) hG zc_X10 inX10 DL_0 4 rfl (by decide) rfl w283 dX10_mendAside_44 ?_
      refine z_iload (pc := 47) hG 1 rfl dX10_mendAside_47 ?_
      replace h := zbind h
      obtain ⟨v2, hv2, h⟩ := h
      refine z_cvI (pc := 49) (A' := 0) (B' := 0) hG [.int (s.2.2.1 32 s.2.1.toNatClampNeg)] [] zc_X5 DL_20 (tX5_isRight hl0 (s.2.2.1 32 s.2.1.toNatClampNeg) v1.2 hv2) zy_X5_isRight ⟨w428, w429⟩ w1288 dX10_mendAside_49 rfl (Nat.le_of_ble_eq_true rfl) rfl rfl rfl (Nat.le_of_ble_eq_true rfl) rfl ?_
      refine z_if_ne (pc := 52) (tgt := 58) hG dX10_mendAside_52 rfl (fun hc => ?_) (fun hc => ?_)
      · replace h := zif_f hc h
        refine z_sub (ls' := [(0, .ref 0), (1, .int a1), (2, .int s.1), (3, .int s.2.1), (4, .int (s.2.2.1 32 s.2.1.toNatClampNeg)), (5, .int v1.1)]) [2, 3, 4, 5, 1, 0] rfl ?_
        exact kjX10_mendAside_58 hG hl0 a1 s.1 s.2.1 (s.2.2.1 32 s.2.1.toNatClampNeg) v1.1 v1.2 h hk
      · replace h := zif_t hc h
        refine z_iinc (pc := 55) (ls' := [(2, .int (s.1 + (1 : Int32))), (5, .int v1.1), (4, .int (s.2.2.1 32 s.2.1.toNatClampNeg)), (0, .ref 0), (1, .int a1), (3, .int s.2.1)]) hG 4 rfl [0, 1, 2, 3, 4, 5] (ki_1 _) (by decide) rfl dX10_mendAside_55 ?_
        refine z_sub (ls' := [(0, .ref 0), (1, .int a1), (2, .int (s.1 + (1 : Int32))), (3, .int s.2.1), (4, .int (s.2.2.1 32 s.2.1.toNatClampNeg)), (5, .int v1.1)]) [3, 4, 0, 5, 2, 1] rfl ?_
        exact kjX10_mendAside_58 hG hl0 a1 (s.1 + (1 : Int32)) s.2.1 (s.2.2.1 32 s.2.1.toNatClampNeg) v1.1 v1.2 h hk
set_option maxHeartbeats 60000 in
theorem tX10_mendAside {l : Launch} (hl0 : l.flags = flags0) (a1 : Int32) (g : zS) {r : (Int32 × zS)} (h : nX10_mendAside a1 g = some r) : zC l yX10_mendAside cX10_mendAside 6 ((Option.some Jvm.ClassFile.FieldType.int)) 6 0 0 [.ref 0, .int a1] zD g (.inl (some (.int r.1)), zD, r.2) := by
  refine zC_of hl0 rfl (Nat.le_of_ble_eq_true rfl) (fun x hG hxl hk _ => ?_)
  subst hxl
  show zK x 6 0 [(0, .ref 0), (1, .int a1)] [] zD g 0 0
  unfold nX10_mendAside at h
  refine z_iconst (pc := 0) hG kc_0 dX10_mendAside_0 ?_
  refine z_istore_n (pc := 1) (ls' := [(2, .int (0 : Int32)), (0, .ref 0), (1, .int a1)]) hG [0, 1, 2] rfl (by decide) rfl dX10_mendAside_1 ?_
  refine z_iconst (pc := 2) hG kc_0 dX10_mendAside_2 ?_
  refine z_istore_n (pc := 3) (ls' := [(3, .int (0 : Int32)), (2, .int (0 : Int32)), (0, .ref 0), (1, .int a1)]) hG [0, 1, 2, 3] rfl (by decide) rfl dX10_mendAside_3 ?_
  refine z_sub (ls' := [(0, .ref 0), (1, .int a1), (2, .int (0 : Int32)), (3, .int (0 : Int32))]) [2, 3, 1, 0] rfl ?_
  exact kwX10_mendAside_4 hG hl0 a1 hk ((0 : Int32), (0 : Int32), g) h
noncomputable def nX10_mendAll (a1 : Int32) (g : zS) : Option ((Int32 ⊕ String) × zS) :=
  (nX10_needWay a1).bind fun v1 => zel v1 (fun w1 => (nX10_mendAside a1 g).bind fun v2 => (nX8_remember v2.2).bind fun v3 => zchk (zcpo (0 : Int32) (0 : Int32) (v3.1 31 1) 40 40) (some ((.inl v2.1, (zcpy v3 40 32 (0 : Int32) (0 : Int32) (v3.1 31 1)))))) (fun e => some ((.inr e, g)))
set_option maxHeartbeats 60000 in
theorem tX10_mendAll {l : Launch} (hl0 : l.flags = flags0) (a1 : Int32) (g : zS) {r : ((Int32 ⊕ String) × zS)} (h : nX10_mendAll a1 g = some r) : zC l yX10_mendAll cX10_mendAll 3 ((Option.some Jvm.ClassFile.FieldType.int)) 9 1 6 [.ref 0, .int a1] zD g (ztI r.1, zD, r.2) := by
  refine zC_of hl0 rfl (Nat.le_of_ble_eq_true rfl) (fun x hG hxl hk _ => ?_)
  subst hxl
  show zK x 9 0 [(0, .ref 0), (1, .int a1)] [] zD g 1 6
  unfold nX10_mendAll at h
  refine z_aload_n (pc := 0) hG 0 rfl rfl dX10_mendAll_0 ?_
  refine z_iload_n (pc := 1) hG 1 rfl rfl dX10_mendAll_1 ?_
  replace h := zbind h
  obtain ⟨w1 | e, hv1, h⟩ := h
  rotate_left
  · replace h := zel_r h
    obtain rfl := Option.some.inj h
    exact z_cvX (pc := 2) hG [.int a1] [] zc_X10 DL_0 (tX10_needWay hl0 a1 g hv1) zy_X10_needWay ⟨w1254, wp54⟩ w1252 dX10_mendAll_2 rfl (Nat.le_of_ble_eq_true rfl) (Nat.le_of_ble_eq_true rfl) (Nat.le_of_ble_eq_true rfl) (Nat.le_of_ble_eq_true rfl) rfl hk
  replace h := zel_l h
  refine z_cvV (pc := 2) (A' := 0) (B' := 0) hG [.int a1] [] zc_X10 DL_0 (tX10_needWay hl0 a1 g hv1) zy_X10_needWay ⟨w1254, wp54⟩ w1252 dX10_mendAll_2 rfl (Nat.le_of_ble_eq_true rfl) rfl rfl rfl (Nat.le_of_ble_eq_true rfl) rfl ?_
  refine z_aload_n (pc := 5) hG 0 rfl rfl dX10_mendAll_5 ?_
  refine z_iload_n (pc := 6) hG 1 rfl rfl dX10_mendAll_6 ?_
  replace h := zbind h
  obtain ⟨v2, hv2, h⟩ := h
  refine z_cvI (pc := 7) (A' := 0) (B' := 0) hG [.int a1] [] zc_X10 DL_0 (tX10_mendAside hl0 a1 g hv2) zy_X10_mendAside ⟨w1302, wp57⟩ w1300 dX10_mendAll_7 rfl (Nat.le_of_ble_eq_true rfl) rfl rfl rfl (Nat.le_of_ble_eq_true rfl) rfl ?_
  refine z_istore_n (pc := 10) (ls' := [(2, .int v2.1), (0, .ref 0), (1, .int a1)]) hG [0, 1, 2] rfl (by decide) rfl dX10_mendAll_10 ?_
  refine z_aload_n (pc := 11) hG 1 rfl rfl dX10_mendAll_11 ?_
  refine z_getr (pc := 12) hG zc_X10 inX10 DL_0 6 rfl (by decide) rfl w285 dX10_mendAll_12 ?_
  replace h := zbind h
  obtain ⟨v3, hv3, h⟩ := h
  refine z_cvV (pc := 15) (A' := 0) (B' := 0) hG [] [] zc_X8 DL_31 (tX8_remember hl0  v2.2 hv3) zy_X8_remember ⟨w1008, w1009⟩ w1007 dX10_mendAll_15 rfl (Nat.le_of_ble_eq_true rfl) rfl rfl rfl (Nat.le_of_ble_eq_true rfl) rfl ?_
  refine z_aload_n (pc := 18) hG 1 rfl rfl dX10_mendAll_18 ?_
  refine z_getr (pc := 19) hG zc_X10 inX10 DL_0 9 rfl (by decide) rfl w288 dX10_mendAll_19 ?_
  refine z_iconst (pc := 22) hG kc_0 dX10_mendAll_22 ?_
  refine z_aload_n (pc := 23) hG 1 rfl rfl dX10_mendAll_23 ?_
  refine z_getr (pc := 24) hG zc_X10 inX10 DL_0 6 rfl (by decide) rfl w285 dX10_mendAll_24 ?_
  refine z_getr (pc := 27) hG zc_X8 inX8 DL_31 0 rfl (by decide) rfl w215 dX10_mendAll_27 ?_
  refine z_iconst (pc := 30) hG kc_0 dX10_mendAll_30 ?_
  refine z_aload_n (pc := 31) hG 1 rfl rfl dX10_mendAll_31 ?_
  refine z_getr (pc := 32) hG zc_X10 inX10 DL_0 6 rfl (by decide) rfl w285 dX10_mendAll_32 ?_
  refine z_geti (pc := 35) hG zc_X8 inX8 DL_31 1 rfl (by decide) rfl w219 dX10_mendAll_35 ?_
  replace h := zchk_some h
  obtain ⟨hc, h⟩ := h
  refine z_copyI (pc := 38) hG DL_40 DL_32 w1304 w398 w397 w20 (Nat.le_of_ble_eq_true rfl) hc dX10_mendAll_38 ?_
  refine z_iload_n (pc := 41) hG 0 rfl rfl dX10_mendAll_41 ?_
  obtain rfl := Option.some.inj h
  exact z_iret (pc := 42) hG rfl rfl hk dX10_mendAll_42
noncomputable def jX10_trial_14 (g : zS) : Option ((Int32 ⊕ String) × zS) :=
  some ((.inr "java/util/NoSuchElementException", g))
noncomputable def wX10_trial_48 (a2 : Int32) (g : zS) (s : (Int32 × Int32)) : Option ((Int32 × Int32) ⊕ ((Int32 ⊕ String) × zS)) :=
  if (g.1 31 1) ≤ s.2 then (zex (some ((.inl s.1, g)))) else (zchk (zin s.2 40) (zchk (zin s.2 40) ((nX1_unlikeFields (g.1 32 s.2.toNatClampNeg) (g.1 40 s.2.toNatClampNeg)).bind fun v3 => if a2 = (1 : Int32) then ((nJ6_bitCount_0f7a4 v3).bind fun v5 => some (.inl ((s.1 + v5), (s.2 + (1 : Int32))))) else ((nX6_weightOf v3 g).bind fun v4 => some (.inl ((s.1 + v4), (s.2 + (1 : Int32))))))))
noncomputable def nX10_trial (a1 : Int32) (a2 : Int32) (g : zS) : Option ((Int32 ⊕ String) × zS) :=
  (nX10_needWay a1).bind fun v1 => zel v1 (fun w1 => if a2 < 0 then (jX10_trial_14 g) else (if a2 ≤ (2 : Int32) then ((nX10_mendAside a1 g).bind fun v2 => if a2 = 0 then ((nX4_countRight v2.2).bind fun v6 => some ((.inl (v6 + v2.1), v2.2))) else (wh (wX10_trial_48 a2 v2.2) ((0 : Int32), (0 : Int32)))) else (jX10_trial_14 g))) (fun e => some ((.inr e, g)))
def qX10_trial_48 (x : zXx) (a2 : Int32) (g : zS) (o : (Int32 × Int32) ⊕ ((Int32 ⊕ String) × zS)) : Prop := match o with
  | .inl s => zK x 9 48 [(0, .ref 0), (2, .int a2), (4, .int s.1), (5, .int s.2)] [] zD g 0 0
  | .inr r => ztg x = (ztI r.1, zD, r.2)
set_option maxHeartbeats 60000 in
theorem kjX10_trial_14 {x : zXx} (hG : zG x cX10_trial 7 RX10 ((Option.some Jvm.ClassFile.FieldType.int))) (hl0 : (zl0 x).flags = flags0) (g : zS) {o : ((Int32 ⊕ String) × zS)} (h : jX10_trial_14 g = some o) (hk : ztg x = (ztI o.1, zD, o.2)) : zK x 9 14 [] [] zD g 1 6 := by
  unfold jX10_trial_14 at h
  obtain rfl := Option.some.inj h
  exact z_throw (pc := 14) hG (by decide) (by decide) w852 w25 hatRX10_145 hbdRX10_145 hgdRX10_145 (by decide) (Nat.le_of_ble_eq_true rfl) (Nat.le_of_ble_eq_true rfl) (Nat.le_of_ble_eq_true rfl) (Nat.le_of_ble_eq_true rfl) dX10_trial_14 dX10_trial_17 dX10_trial_18 dX10_trial_21 hk
set_option maxHeartbeats 60000 in
theorem kwX10_trial_48 {x : zXx} (hG : zG x cX10_trial 7 RX10 ((Option.some Jvm.ClassFile.FieldType.int))) (hl0 : (zl0 x).flags = flags0) (a2 : Int32) (g : zS) {o : ((Int32 ⊕ String) × zS)} (hk : ztg x = (ztI o.1, zD, o.2)) : ∀ s : (Int32 × Int32), wh (wX10_trial_48 a2 g) s = some o → zK x 9 48 [(0, .ref 0), (2, .int a2), (4, .int s.1), (5, .int s.2)] [] zD g 0 0 := by
  refine wh_ind (fun s : (Int32 × Int32) => zK x 9 48 [(0, .ref 0), (2, .int a2), (4, .int s.1), (5, .int s.2)] [] zD g 0 0) (fun s o h hk2 => ?_)
  replace hk : qX10_trial_48 x a2 g o := by
    cases o with
    | inl s => exact hk2
    | inr r => subst hk2; exact hk
  clear hk2
  unfold wX10_trial_48 at h
  refine z_iload (pc := 48) hG 3 rfl dX10_trial_48 ?_
  refine z_aload_n (pc := 50) hG 0 rfl rfl dX10_trial_50 ?_
  refine z_getr (pc := 51) hG zc_X10 inX10 DL_0 6 rfl (by decide) rfl w285 dX10_trial_51 ?_
  refine z_geti (pc := 54) hG zc_X8 inX8 DL_31 1 rfl (by decide) rfl w219 dX10_trial_54 ?_
  refine z_icmp_ge (pc := 57) (tgt := 115) hG dX10_trial_57 rfl (fun hc => ?_) (fun hc => ?_)
  · replace h := zif_t hc h
    replace h := zex_some h
    obtain ⟨o, h, rfl⟩ := h
    refine z_iload (pc := 115) hG 2 rfl dX10_trial_115 ?_
    obtain rfl := Option.some.inj h
    exact z_iret (pc := 117) hG rfl rfl hk dX10_trial_117
  · replace h := zif_f hc h
    refine z_aload_n (pc := 60) hG 0 rfl rfl dX10_trial_60 ?_
    refine z_getr (pc := 61) hG zc_X10 inX10 DL_0 6 rfl (by decide) rfl w285 dX10_trial_61 ?_
    refine z_getr (pc := 64) hG zc_X8 inX8 DL_31 0 rfl (by decide) rfl w215 dX10_trial_64 ?_
    refine z_iload (pc := 67) hG 3 rfl dX10_trial_67 ?_
    replace h := zchk_some h
    obtain ⟨hc, h⟩ := h
    refine z_iald (pc := 69) hG DL_32 (zin_in hc) dX10_trial_69 ?_
    refine z_aload_n (pc := 70) hG 0 rfl rfl dX10_trial_70 ?_
    refine z_getr (pc := 71) hG zc_X10 inX10 DL_0 9 rfl (by decide) rfl w288 dX10_trial_71 ?_
    refine z_iload (pc := 74) hG 3 rfl dX10_trial_74 ?_
    replace h := zchk_some h
    obtain ⟨hc, h⟩ := h
    refine z_iald (pc := 76) hG DL_40 (zin_in hc) dX10_trial_76 ?_
    replace h := zbind h
    obtain ⟨v3, hv3, h⟩ := h
    refine z_csI (pc := 77) (A' := 0) (B' := 0) hG [.int (g.1 32 s.2.toNatClampNeg), .int (g.1 40 s.2.toNatClampNeg)] [] (tX1_unlikeFields hl0 (g.1 32 s.2.toNatClampNeg) (g.1 40 s.2.toNatClampNeg) g hv3) zy_X1_unlikeFields w1290 w1289 dX10_trial_77 rfl (Nat.le_of_ble_eq_true rfl) rfl rfl rfl (Nat.le_of_ble_eq_true rfl) rfl ?_
    refine z_istore (pc := 80) (ls' := [(6, .int v3), (0, .ref 0), (2, .int a2), (4, .int s.1), (5, .int s.2)]) hG [0, 1, 2, 3, 4] (by decide) rfl dX10_trial_80 ?_
    refine z_iload (pc := 82) hG 3 rfl dX10_trial_82 ?_
    refine z_iload_n (pc := 84) hG 2 rfl rfl dX10_trial_84 ?_
    refine z_iconst (pc := 85) hG kc_1 dX10_trial_85 ?_
    refine z_icmp_ne (pc := 86) (tgt := 97) hG dX10_trial_86 rfl (fun hc => ?_) (fun hc => ?_)
    · replace h := zif_f hc h
      refine z_aload_n (pc := 97) hG 1 rfl rfl dX10_trial_97 ?_
      refine z_getr (pc := 98) hG zc_X10 inX10 DL_0 1 rfl (by decide) rfl w280 dX10_trial_98 ?_
      refine z_iload (pc := 101) hG 0 rfl dX10_trial_101 ?_
      replace h := zbind h
      obtain ⟨v4, hv4, h⟩ := h
      refine z_cvI (pc := 103) (A' := 0) (B' := 0) hG [.int v3] [.int s.1] zc_X6 DL_3 (tX6_weightOf hl0 v3 g hv4) zy_X6_weightOf ⟨w466, w467⟩ w547 dX10_trial_103 rfl (Nat.le_of_ble_eq_true rfl) rfl rfl rfl (Nat.le_of_ble_eq_true rfl) rfl ?_
      refine z_iadd (pc := 106) hG dX10_trial_106 ?_
      refine z_istore (pc := 107) (ls' := [(4, .int (s.1 + v4)), (6, .int v3), (0, .ref 0), (2, .int a2), (5, .int s.2)]) hG [0, 1, 2, 3, 4] (by decide) rfl dX10_trial_107 ?_
      refine z_iinc (pc := 109) (ls' := [(5, .int (s.2 + (1 : Int32))), (4, .int (s.1 + v4)), (6, .int v3), (0, .ref 0), (2, .int a2)]) hG 4 rfl [0, 1, 2, 3, 4] (ki_1 _) (by decide) rfl dX10_trial_109 ?_
      refine z_goto (pc := 112) (tgt := 48) hG dX10_trial_112 rfl ?_
      obtain rfl := Option.some.inj h
      refine z_sub (ls' := [(0, .ref 0), (2, .int a2), (4, .int (s.1 + v4)), (5, .int (s.2 + (1 : Int32)))]) [3, 4, 1, 0] rfl ?_
      exact hk
    · replace h := zif_t hc h
      refine z_iload (pc := 89) hG 0 rfl dX10_trial_89 ?_
      replace h := zbind h
      obtain ⟨v5, hv5, h⟩ := h
      refine z_csI (pc := 91) (A' := 0) (B' := 0) hG [.int v3] [.int s.1] (tJ6_bitCount_0f7a4 hl0 v3 g hv5) zy_J6_bitCount_0f7a4 w474 w1292 dX10_trial_91 rfl (Nat.le_of_ble_eq_true rfl) rfl rfl rfl (Nat.le_of_ble_eq_true rfl) rfl ?_
      refine z_goto (pc := 94) (tgt := 106) hG dX10_trial_94 rfl ?_
      refine z_iadd (pc := 106) hG dX10_trial_106 ?_
      refine z_istore (pc := 107) (ls' := [(4, .int (s.1 + v5)), (6, .int v3), (0, .ref 0), (2, .int a2), (5, .int s.2)]) hG [0, 1, 2, 3, 4] (by decide) rfl dX10_trial_107 ?_
      refine z_iinc (pc := 109) (ls' := [(5, .int (s.2 + (1 : Int32))), (4, .int (s.1 + v5)), (6, .int v3), (0, .ref 0), (2, .int a2)]) hG 4 rfl [0, 1, 2, 3, 4] (ki_1 _) (by decide) rfl dX10_trial_109 ?_
      refine z_goto (pc := 112) (tgt := 48) hG dX10_trial_112 rfl ?_
      obtain rfl := Option.some.inj h
      refine z_sub (ls' := [(0, .ref 0), (2, .int a2), (4, .int (s.1 + v5)), (5, .int (s.2 + (1 : Int32)))]) [3, 4, 1, 0] rfl ?_
      exact hk
set_option maxHeartbeats 60000 in
theorem tX10_trial {l : Launch} (hl0 : l.flags = flags0) (a1 : Int32) (a2 : Int32) (g : zS) {r : ((Int32 ⊕ String) × zS)} (h : nX10_trial a1 a2 g = some r) : zC l yX10_trial cX10_trial 7 ((Option.some Jvm.ClassFile.FieldType.int)) 9 2 12 [.ref 0, .int a1, .int a2] zD g (ztI r.1, zD, r.2) := by
  refine zC_of hl0 rfl (Nat.le_of_ble_eq_true rfl) (fun x hG hxl hk _ => ?_)
  subst hxl
  show zK x 9 0 [(0, .ref 0), (1, .int a1), (2, .int a2)] [] zD g 2 12
  unfold nX10_trial at h
  refine z_aload_n (pc := 0) hG 0 rfl rfl dX10_trial_0 ?_
  refine z_iload_n (pc := 1) hG 1 rfl rfl dX10_trial_1 ?_
  replace h := zbind h
  obtain ⟨w1 | e, hv1, h⟩ := h
  rotate_left
  · replace h := zel_r h
    obtain rfl := Option.some.inj h
    exact z_cvX (pc := 2) hG [.int a1] [] zc_X10 DL_0 (tX10_needWay hl0 a1 g hv1) zy_X10_needWay ⟨w1254, wp54⟩ w1252 dX10_trial_2 rfl (Nat.le_of_ble_eq_true rfl) (Nat.le_of_ble_eq_true rfl) (Nat.le_of_ble_eq_true rfl) (Nat.le_of_ble_eq_true rfl) rfl hk
  replace h := zel_l h
  refine z_cvV (pc := 2) (A' := 1) (B' := 6) hG [.int a1] [] zc_X10 DL_0 (tX10_needWay hl0 a1 g hv1) zy_X10_needWay ⟨w1254, wp54⟩ w1252 dX10_trial_2 rfl (Nat.le_of_ble_eq_true rfl) rfl rfl rfl (Nat.le_of_ble_eq_true rfl) rfl ?_
  refine z_iload_n (pc := 5) hG 2 rfl rfl dX10_trial_5 ?_
  refine z_if_lt (pc := 6) (tgt := 14) hG dX10_trial_6 rfl (fun hc => ?_) (fun hc => ?_)
  · replace h := zif_t hc h
    refine z_sub (ls' := []) [] rfl ?_
    exact kjX10_trial_14 hG hl0 g h hk
  · replace h := zif_f hc h
    refine z_iload_n (pc := 9) hG 2 rfl rfl dX10_trial_9 ?_
    refine z_iconst (pc := 10) hG kc_2 dX10_trial_10 ?_
    refine z_icmp_le (pc := 11) (tgt := 22) hG dX10_trial_11 rfl (fun hc => ?_) (fun hc => ?_)
    · replace h := zif_t hc h
      refine z_aload_n (pc := 22) hG 0 rfl rfl dX10_trial_22 ?_
      refine z_iload_n (pc := 23) hG 1 rfl rfl dX10_trial_23 ?_
      replace h := zbind h
      obtain ⟨v2, hv2, h⟩ := h
      refine z_cvI (pc := 24) (A' := 1) (B' := 6) hG [.int a1] [] zc_X10 DL_0 (tX10_mendAside hl0 a1 g hv2) zy_X10_mendAside ⟨w1302, wp57⟩ w1300 dX10_trial_24 rfl (Nat.le_of_ble_eq_true rfl) rfl rfl rfl (Nat.le_of_ble_eq_true rfl) rfl ?_
      refine z_istore_n (pc := 27) (ls' := [(3, .int v2.1), (0, .ref 0), (1, .int a1), (2, .int a2)]) hG [0, 1, 2, 3] rfl (by decide) rfl dX10_trial_27 ?_
      refine z_iload_n (pc := 28) hG 3 rfl rfl dX10_trial_28 ?_
      refine z_if_ne (pc := 29) (tgt := 42) hG dX10_trial_29 rfl (fun hc => ?_) (fun hc => ?_)
      · replace h := zif_f hc h
        refine z_iconst (pc := 42) hG kc_0 dX10_trial_42 ?_
        refine z_istore (pc := 43) (ls' := [(4, .int (0 : Int32)), (3, .int v2.1), (0, .ref 0), (1, .int a1), (2, .int a2)]) hG [0, 1, 2, 3, 4] (by decide) rfl dX10_trial_43 ?_
        refine z_iconst (pc := 45) hG kc_0 dX10_trial_45 ?_
        refine z_istore (pc := 46) (ls' := [(5, .int (0 : Int32)), (4, .int (0 : Int32)), (3, .int v2.1), (0, .ref 0), (1, .int a1), (2, .int a2)]) hG [0, 1, 2, 3, 4, 5] (by decide) rfl dX10_trial_46 ?_
        refine z_sub (ls' := [(0, .ref 0), (2, .int a2), (4, .int (0 : Int32)), (5, .int (0 : Int32))]) [3, 5, 1, 0] rfl ?_
        refine z_wk (A' := 0) (B' := 0) (by decide) (by decide) ?_
        exact kwX10_trial_48 hG hl0 a2 v2.2 hk ((0 : Int32), (0 : Int32)) h
      · replace h := zif_t hc h
        refine z_aload_n (pc := 32) hG 1 rfl rfl dX10_trial_32 ?_
        refine z_getr (pc := 33) hG zc_X10 inX10 DL_0 8 rfl (by decide) rfl w287 dX10_trial_33 ?_
        replace h := zbind h
        obtain ⟨v6, hv6, h⟩ := h
        refine z_cvI (pc := 36) (A' := 1) (B' := 6) hG [] [] zc_X4 DL_37 (tX4_countRight hl0  v2.2 hv6) zy_X4_countRight ⟨w535, w536⟩ w534 dX10_trial_36 rfl (Nat.le_of_ble_eq_true rfl) rfl rfl rfl (Nat.le_of_ble_eq_true rfl) rfl ?_
        refine z_iload_n (pc := 39) hG 0 rfl rfl dX10_trial_39 ?_
        refine z_iadd (pc := 40) hG dX10_trial_40 ?_
        obtain rfl := Option.some.inj h
        exact z_iret (pc := 41) hG rfl rfl hk dX10_trial_41
    · replace h := zif_f hc h
      refine z_sub (ls' := []) [] rfl ?_
      exact kjX10_trial_14 hG hl0 g h hk
noncomputable def nX10_undo (g : zS) : Option (Int32 × zS) :=
  (nX8_takeBack g).bind fun v1 => if v1.1 = 0 then (some (((-1 : Int32), v1.2))) else (some (((v1.2.1 31 2), v1.2)))
set_option maxHeartbeats 60000 in
theorem tX10_undo {l : Launch} (hl0 : l.flags = flags0) (g : zS) {r : (Int32 × zS)} (h : nX10_undo g = some r) : zC l yX10_undo cX10_undo 1 ((Option.some Jvm.ClassFile.FieldType.int)) 1 0 0 [.ref 0] zD g (.inl (some (.int r.1)), zD, r.2) := by
  refine zC_of hl0 rfl (Nat.le_of_ble_eq_true rfl) (fun x hG hxl hk _ => ?_)
  subst hxl
  show zK x 1 0 [(0, .ref 0)] [] zD g 0 0
  unfold nX10_undo at h
  refine z_aload_n (pc := 0) hG 0 rfl rfl dX10_undo_0 ?_
  refine z_getr (pc := 1) hG zc_X10 inX10 DL_0 6 rfl (by decide) rfl w285 dX10_undo_1 ?_
  replace h := zbind h
  obtain ⟨v1, hv1, h⟩ := h
  refine z_cvI (pc := 4) (A' := 0) (B' := 0) hG [] [] zc_X8 DL_31 (tX8_takeBack hl0  g hv1) zy_X8_takeBack ⟨w488, w489⟩ w487 dX10_undo_4 rfl (Nat.le_of_ble_eq_true rfl) rfl rfl rfl (Nat.le_of_ble_eq_true rfl) rfl ?_
  refine z_if_eq (pc := 7) (tgt := 20) hG dX10_undo_7 rfl (fun hc => ?_) (fun hc => ?_)
  · replace h := zif_t hc h
    refine z_iconst (pc := 20) hG kc_m1 dX10_undo_20 ?_
    obtain rfl := Option.some.inj h
    exact z_iret (pc := 21) hG rfl rfl hk dX10_undo_21
  · replace h := zif_f hc h
    refine z_aload_n (pc := 10) hG 0 rfl rfl dX10_undo_10 ?_
    refine z_getr (pc := 11) hG zc_X10 inX10 DL_0 6 rfl (by decide) rfl w285 dX10_undo_11 ?_
    refine z_geti (pc := 14) hG zc_X8 inX8 DL_31 2 rfl (by decide) rfl w221 dX10_undo_14 ?_
    refine z_goto (pc := 17) (tgt := 21) hG dX10_undo_17 rfl ?_
    obtain rfl := Option.some.inj h
    exact z_iret (pc := 21) hG rfl rfl hk dX10_undo_21
noncomputable def nX10_pattern (a1 : Int32) (a2 : Int32) (g : zS) : Option ((Int32 ⊕ String) × zS) :=
  (nX4_patternFirst a1 g).bind fun v1 => if v1.1 = (-1 : Int32) then (some ((.inr "java/util/NoSuchElementException", v1.2))) else ((nX8_codeOf v1.1 v1.2).bind fun v2 => if a2 = 0 then ((nX5_editsFailed v2 v1.2).bind fun v3 => some ((.inl v3, v1.2))) else (if a2 = 1 then ((nX1_missingIn v2 (v1.2.1 3 0)).bind fun v4 => some ((.inl v4, v1.2))) else (if a2 = 2 then ((nX4_patternRows v1.1 v1.2).bind fun v5 => some ((.inl v5.1, v5.2))) else (if a2 = 3 then (some ((.inl v1.1, v1.2))) else (some ((.inr "java/util/NoSuchElementException", v1.2)))))))
set_option maxHeartbeats 60000 in
theorem tX10_pattern {l : Launch} (hl0 : l.flags = flags0) (a1 : Int32) (a2 : Int32) (g : zS) {r : ((Int32 ⊕ String) × zS)} (h : nX10_pattern a1 a2 g = some r) : zC l yX10_pattern cX10_pattern 5 ((Option.some Jvm.ClassFile.FieldType.int)) 8 1 6 [.ref 0, .int a1, .int a2] zD g (ztI r.1, zD, r.2) := by
  refine zC_of hl0 rfl (Nat.le_of_ble_eq_true rfl) (fun x hG hxl hk _ => ?_)
  subst hxl
  show zK x 8 0 [(0, .ref 0), (1, .int a1), (2, .int a2)] [] zD g 1 6
  unfold nX10_pattern at h
  refine z_aload_n (pc := 0) hG 0 rfl rfl dX10_pattern_0 ?_
  refine z_getr (pc := 1) hG zc_X10 inX10 DL_0 8 rfl (by decide) rfl w287 dX10_pattern_1 ?_
  refine z_iload_n (pc := 4) hG 1 rfl rfl dX10_pattern_4 ?_
  replace h := zbind h
  obtain ⟨v1, hv1, h⟩ := h
  refine z_cvI (pc := 5) (A' := 1) (B' := 6) hG [.int a1] [] zc_X4 DL_37 (tX4_patternFirst hl0 a1 g hv1) zy_X4_patternFirst ⟨w1320, w1321⟩ w1319 dX10_pattern_5 rfl (Nat.le_of_ble_eq_true rfl) rfl rfl rfl (Nat.le_of_ble_eq_true rfl) rfl ?_
  refine z_istore_n (pc := 8) (ls' := [(3, .int v1.1), (0, .ref 0), (1, .int a1), (2, .int a2)]) hG [0, 1, 2, 3] rfl (by decide) rfl dX10_pattern_8 ?_
  refine z_iload_n (pc := 9) hG 0 rfl rfl dX10_pattern_9 ?_
  refine z_iconst (pc := 10) hG kc_m1 dX10_pattern_10 ?_
  refine z_icmp_ne (pc := 11) (tgt := 22) hG dX10_pattern_11 rfl (fun hc => ?_) (fun hc => ?_)
  · replace h := zif_f hc h
    refine z_aload_n (pc := 22) hG 1 rfl rfl dX10_pattern_22 ?_
    refine z_getr (pc := 23) hG zc_X10 inX10 DL_0 6 rfl (by decide) rfl w285 dX10_pattern_23 ?_
    refine z_iload_n (pc := 26) hG 0 rfl rfl dX10_pattern_26 ?_
    replace h := zbind h
    obtain ⟨v2, hv2, h⟩ := h
    refine z_cvI (pc := 27) (A' := 1) (B' := 6) hG [.int v1.1] [] zc_X8 DL_31 (tX8_codeOf hl0 v1.1 v1.2 hv2) zy_X8_codeOf ⟨w992, w993⟩ w991 dX10_pattern_27 rfl (Nat.le_of_ble_eq_true rfl) rfl rfl rfl (Nat.le_of_ble_eq_true rfl) rfl ?_
    refine z_istore (pc := 30) (ls' := [(4, .int v2), (3, .int v1.1), (0, .ref 0), (1, .int a1), (2, .int a2)]) hG [0, 1, 2, 3, 4] (by decide) rfl dX10_pattern_30 ?_
    refine z_iload_n (pc := 32) hG 4 rfl rfl dX10_pattern_32 ?_
    by_cases hc0 : a2 = 0
    · replace h := zif_t hc0 h
      refine z_tabIn (pc := 33) (tgt := 64) hG dX10_pattern_33 (by rw [hc0]; decide) (by rw [hc0]; decide) (by rw [hc0]; rfl) rfl ?_
      refine z_aload_n (pc := 64) hG 2 rfl rfl dX10_pattern_64 ?_
      refine z_getr (pc := 65) hG zc_X10 inX10 DL_0 4 rfl (by decide) rfl w283 dX10_pattern_65 ?_
      refine z_iload (pc := 68) hG 0 rfl dX10_pattern_68 ?_
      replace h := zbind h
      obtain ⟨v3, hv3, h⟩ := h
      refine z_cvI (pc := 70) (A' := 1) (B' := 6) hG [.int v2] [] zc_X5 DL_20 (tX5_editsFailed hl0 v2 v1.2 hv3) zy_X5_editsFailed ⟨w470, w471⟩ w979 dX10_pattern_70 rfl (Nat.le_of_ble_eq_true rfl) rfl rfl rfl (Nat.le_of_ble_eq_true rfl) rfl ?_
      obtain rfl := Option.some.inj h
      exact z_iret (pc := 73) hG rfl rfl hk dX10_pattern_73
    replace h := zif_f hc0 h
    by_cases hc1 : a2 = 1
    · replace h := zif_t hc1 h
      refine z_tabIn (pc := 33) (tgt := 74) hG dX10_pattern_33 (by rw [hc1]; decide) (by rw [hc1]; decide) (by rw [hc1]; rfl) rfl ?_
      refine z_iload (pc := 74) hG 0 rfl dX10_pattern_74 ?_
      refine z_aload_n (pc := 76) hG 2 rfl rfl dX10_pattern_76 ?_
      refine z_getr (pc := 77) hG zc_X10 inX10 DL_0 1 rfl (by decide) rfl w280 dX10_pattern_77 ?_
      refine z_geti (pc := 80) hG zc_X6 inX6 DL_3 0 rfl (by decide) rfl w63 dX10_pattern_80 ?_
      replace h := zbind h
      obtain ⟨v4, hv4, h⟩ := h
      refine z_csI (pc := 83) (A' := 1) (B' := 6) hG [.int v2, .int (v1.2.1 3 0)] [] (tX1_missingIn hl0 v2 (v1.2.1 3 0) v1.2 hv4) zy_X1_missingIn w432 w1060 dX10_pattern_83 rfl (Nat.le_of_ble_eq_true rfl) rfl rfl rfl (Nat.le_of_ble_eq_true rfl) rfl ?_
      obtain rfl := Option.some.inj h
      exact z_iret (pc := 86) hG rfl rfl hk dX10_pattern_86
    replace h := zif_f hc1 h
    by_cases hc2 : a2 = 2
    · replace h := zif_t hc2 h
      refine z_tabIn (pc := 33) (tgt := 87) hG dX10_pattern_33 (by rw [hc2]; decide) (by rw [hc2]; decide) (by rw [hc2]; rfl) rfl ?_
      refine z_aload_n (pc := 87) hG 2 rfl rfl dX10_pattern_87 ?_
      refine z_getr (pc := 88) hG zc_X10 inX10 DL_0 8 rfl (by decide) rfl w287 dX10_pattern_88 ?_
      refine z_iload_n (pc := 91) hG 1 rfl rfl dX10_pattern_91 ?_
      replace h := zbind h
      obtain ⟨v5, hv5, h⟩ := h
      refine z_cvI (pc := 92) (A' := 1) (B' := 6) hG [.int v1.1] [] zc_X4 DL_37 (tX4_patternRows hl0 v1.1 v1.2 hv5) zy_X4_patternRows ⟨w1324, w1325⟩ w1323 dX10_pattern_92 rfl (Nat.le_of_ble_eq_true rfl) rfl rfl rfl (Nat.le_of_ble_eq_true rfl) rfl ?_
      obtain rfl := Option.some.inj h
      exact z_iret (pc := 95) hG rfl rfl hk dX10_pattern_95
    replace h := zif_f hc2 h
    by_cases hc3 : a2 = 3
    · replace h := zif_t hc3 h
      refine z_tabIn (pc := 33) (tgt := 96) hG dX10_pattern_33 (by rw [hc3]; decide) (by rw [hc3]; decide) (by rw [hc3]; rfl) rfl ?_
      refine z_iload_n (pc := 96) hG 1 rfl rfl dX10_pattern_96 ?_
      obtain rfl := Option.some.inj h
      exact z_iret (pc := 97) hG rfl rfl hk dX10_pattern_97
    replace h := zif_f hc3 h
    refine z_tabOut (pc := 33) (tgt := 98) hG dX10_pattern_33 (ztab_out (n := 3) (fun k hk => by
      match k, hk with
      | 0, _ => exact hc0
      | 1, _ => exact hc1
      | 2, _ => exact hc2
      | 3, _ => exact hc3
      | k + 4, hk => omega)) rfl ?_
    obtain rfl := Option.some.inj h
    exact z_throw (pc := 98) hG (by decide) (by decide) w852 w25 hatRX10_145 hbdRX10_145 hgdRX10_145 (by decide) (Nat.le_of_ble_eq_true rfl) (Nat.le_of_ble_eq_true rfl) (Nat.le_of_ble_eq_true rfl) (Nat.le_of_ble_eq_true rfl) dX10_pattern_98 dX10_pattern_101 dX10_pattern_102 dX10_pattern_105 hk
  · replace h := zif_t hc h
    obtain rfl := Option.some.inj h
    exact z_throw (pc := 14) hG (by decide) (by decide) w852 w25 hatRX10_145 hbdRX10_145 hgdRX10_145 (by decide) (Nat.le_of_ble_eq_true rfl) (Nat.le_of_ble_eq_true rfl) (Nat.le_of_ble_eq_true rfl) (Nat.le_of_ble_eq_true rfl) dX10_pattern_14 dX10_pattern_17 dX10_pattern_18 dX10_pattern_21 hk
noncomputable def nX10_patterns (g : zS) : Option (Int32 × zS) :=
  (nX4_countPatterns g).bind fun v1 => some ((v1.1, v1.2))
set_option maxHeartbeats 60000 in
theorem tX10_patterns {l : Launch} (hl0 : l.flags = flags0) (g : zS) {r : (Int32 × zS)} (h : nX10_patterns g = some r) : zC l yX10_patterns cX10_patterns 1 ((Option.some Jvm.ClassFile.FieldType.int)) 5 0 0 [.ref 0] zD g (.inl (some (.int r.1)), zD, r.2) := by
  refine zC_of hl0 rfl (Nat.le_of_ble_eq_true rfl) (fun x hG hxl hk _ => ?_)
  subst hxl
  show zK x 5 0 [(0, .ref 0)] [] zD g 0 0
  unfold nX10_patterns at h
  refine z_aload_n (pc := 0) hG 0 rfl rfl dX10_patterns_0 ?_
  refine z_getr (pc := 1) hG zc_X10 inX10 DL_0 8 rfl (by decide) rfl w287 dX10_patterns_1 ?_
  replace h := zbind h
  obtain ⟨v1, hv1, h⟩ := h
  refine z_cvI (pc := 4) (A' := 0) (B' := 0) hG [] [] zc_X4 DL_37 (tX4_countPatterns hl0  g hv1) zy_X4_countPatterns ⟨w497, w498⟩ w496 dX10_patterns_4 rfl (Nat.le_of_ble_eq_true rfl) rfl rfl rfl (Nat.le_of_ble_eq_true rfl) rfl ?_
  obtain rfl := Option.some.inj h
  exact z_iret (pc := 7) hG rfl rfl hk dX10_patterns_7
noncomputable def nX10_alike (a1 : Int32) (a2 : Int32) (g : zS) : Option ((Int32 ⊕ String) × zS) :=
  (nX10_needRow a1 g).bind fun v1 => zel v1 (fun w1 => if a2 = 0 then ((nX4_countAlike a1 g).bind fun v2 => some ((.inl v2.1, v2.2))) else ((nX4_firstAlike a1 g).bind fun v3 => some ((.inl v3.1, v3.2)))) (fun e => some ((.inr e, g)))
set_option maxHeartbeats 60000 in
theorem tX10_alike {l : Launch} (hl0 : l.flags = flags0) (a1 : Int32) (a2 : Int32) (g : zS) {r : ((Int32 ⊕ String) × zS)} (h : nX10_alike a1 a2 g = some r) : zC l yX10_alike cX10_alike 3 ((Option.some Jvm.ClassFile.FieldType.int)) 9 1 6 [.ref 0, .int a1, .int a2] zD g (ztI r.1, zD, r.2) := by
  refine zC_of hl0 rfl (Nat.le_of_ble_eq_true rfl) (fun x hG hxl hk _ => ?_)
  subst hxl
  show zK x 9 0 [(0, .ref 0), (1, .int a1), (2, .int a2)] [] zD g 1 6
  unfold nX10_alike at h
  refine z_aload_n (pc := 0) hG 0 rfl rfl dX10_alike_0 ?_
  refine z_iload_n (pc := 1) hG 1 rfl rfl dX10_alike_1 ?_
  replace h := zbind h
  obtain ⟨w1 | e, hv1, h⟩ := h
  rotate_left
  · replace h := zel_r h
    obtain rfl := Option.some.inj h
    exact z_cvX (pc := 2) hG [.int a1] [] zc_X10 DL_0 (tX10_needRow hl0 a1 g hv1) zy_X10_needRow ⟨w989, wp41⟩ w987 dX10_alike_2 rfl (Nat.le_of_ble_eq_true rfl) (Nat.le_of_ble_eq_true rfl) (Nat.le_of_ble_eq_true rfl) (Nat.le_of_ble_eq_true rfl) rfl hk
  replace h := zel_l h
  refine z_cvV (pc := 2) (A' := 0) (B' := 0) hG [.int a1] [] zc_X10 DL_0 (tX10_needRow hl0 a1 g hv1) zy_X10_needRow ⟨w989, wp41⟩ w987 dX10_alike_2 rfl (Nat.le_of_ble_eq_true rfl) rfl rfl rfl (Nat.le_of_ble_eq_true rfl) rfl ?_
  refine z_iload_n (pc := 5) hG 2 rfl rfl dX10_alike_5 ?_
  refine z_if_eq (pc := 6) (tgt := 20) hG dX10_alike_6 rfl (fun hc => ?_) (fun hc => ?_)
  · replace h := zif_t hc h
    refine z_aload_n (pc := 20) hG 0 rfl rfl dX10_alike_20 ?_
    refine z_getr (pc := 21) hG zc_X10 inX10 DL_0 8 rfl (by decide) rfl w287 dX10_alike_21 ?_
    refine z_iload_n (pc := 24) hG 1 rfl rfl dX10_alike_24 ?_
    replace h := zbind h
    obtain ⟨v2, hv2, h⟩ := h
    refine z_cvI (pc := 25) (A' := 0) (B' := 0) hG [.int a1] [] zc_X4 DL_37 (tX4_countAlike hl0 a1 g hv2) zy_X4_countAlike ⟨w1343, w1344⟩ w1342 dX10_alike_25 rfl (Nat.le_of_ble_eq_true rfl) rfl rfl rfl (Nat.le_of_ble_eq_true rfl) rfl ?_
    obtain rfl := Option.some.inj h
    exact z_iret (pc := 28) hG rfl rfl hk dX10_alike_28
  · replace h := zif_f hc h
    refine z_aload_n (pc := 9) hG 0 rfl rfl dX10_alike_9 ?_
    refine z_getr (pc := 10) hG zc_X10 inX10 DL_0 8 rfl (by decide) rfl w287 dX10_alike_10 ?_
    refine z_iload_n (pc := 13) hG 1 rfl rfl dX10_alike_13 ?_
    replace h := zbind h
    obtain ⟨v3, hv3, h⟩ := h
    refine z_cvI (pc := 14) (A' := 0) (B' := 0) hG [.int a1] [] zc_X4 DL_37 (tX4_firstAlike hl0 a1 g hv3) zy_X4_firstAlike ⟨w1339, w1340⟩ w1338 dX10_alike_14 rfl (Nat.le_of_ble_eq_true rfl) rfl rfl rfl (Nat.le_of_ble_eq_true rfl) rfl ?_
    refine z_goto (pc := 17) (tgt := 28) hG dX10_alike_17 rfl ?_
    obtain rfl := Option.some.inj h
    exact z_iret (pc := 28) hG rfl rfl hk dX10_alike_28
noncomputable def nX10_near (a1 : Int32) (a2 : Int32) (g : zS) : Option (Int32 ⊕ String) :=
  (nX10_needRow a1 g).bind fun v1 => zel v1 (fun w1 => (nX10_needRow a2 g).bind fun v2 => zel v2 (fun w2 => (nX8_codeOf a1 g).bind fun v3 => (nX8_codeOf a2 g).bind fun v4 => (nX6_farApart v3 v4 (0 : Int32) g).bind fun v5 => some (.inl v5)) (fun e => some (.inr e))) (fun e => some (.inr e))
set_option maxHeartbeats 60000 in
theorem tX10_near {l : Launch} (hl0 : l.flags = flags0) (a1 : Int32) (a2 : Int32) (g : zS) {r : (Int32 ⊕ String)} (h : nX10_near a1 a2 g = some r) : zC l yX10_near cX10_near 3 ((Option.some Jvm.ClassFile.FieldType.int)) 9 2 12 [.ref 0, .int a1, .int a2] zD g (ztI r, zD, g) := by
  refine zC_of hl0 rfl (Nat.le_of_ble_eq_true rfl) (fun x hG hxl hk _ => ?_)
  subst hxl
  show zK x 9 0 [(0, .ref 0), (1, .int a1), (2, .int a2)] [] zD g 2 12
  unfold nX10_near at h
  refine z_aload_n (pc := 0) hG 0 rfl rfl dX10_near_0 ?_
  refine z_iload_n (pc := 1) hG 1 rfl rfl dX10_near_1 ?_
  replace h := zbind h
  obtain ⟨w1 | e, hv1, h⟩ := h
  rotate_left
  · replace h := zel_r h
    obtain rfl := Option.some.inj h
    exact z_cvX (pc := 2) hG [.int a1] [] zc_X10 DL_0 (tX10_needRow hl0 a1 g hv1) zy_X10_needRow ⟨w989, wp41⟩ w987 dX10_near_2 rfl (Nat.le_of_ble_eq_true rfl) (Nat.le_of_ble_eq_true rfl) (Nat.le_of_ble_eq_true rfl) (Nat.le_of_ble_eq_true rfl) rfl hk
  replace h := zel_l h
  refine z_cvV (pc := 2) (A' := 1) (B' := 6) hG [.int a1] [] zc_X10 DL_0 (tX10_needRow hl0 a1 g hv1) zy_X10_needRow ⟨w989, wp41⟩ w987 dX10_near_2 rfl (Nat.le_of_ble_eq_true rfl) rfl rfl rfl (Nat.le_of_ble_eq_true rfl) rfl ?_
  refine z_aload_n (pc := 5) hG 0 rfl rfl dX10_near_5 ?_
  refine z_iload_n (pc := 6) hG 2 rfl rfl dX10_near_6 ?_
  replace h := zbind h
  obtain ⟨w2 | e, hv2, h⟩ := h
  rotate_left
  · replace h := zel_r h
    obtain rfl := Option.some.inj h
    exact z_cvX (pc := 7) hG [.int a2] [] zc_X10 DL_0 (tX10_needRow hl0 a2 g hv2) zy_X10_needRow ⟨w989, wp41⟩ w987 dX10_near_7 rfl (Nat.le_of_ble_eq_true rfl) (Nat.le_of_ble_eq_true rfl) (Nat.le_of_ble_eq_true rfl) (Nat.le_of_ble_eq_true rfl) rfl hk
  replace h := zel_l h
  refine z_cvV (pc := 7) (A' := 0) (B' := 0) hG [.int a2] [] zc_X10 DL_0 (tX10_needRow hl0 a2 g hv2) zy_X10_needRow ⟨w989, wp41⟩ w987 dX10_near_7 rfl (Nat.le_of_ble_eq_true rfl) rfl rfl rfl (Nat.le_of_ble_eq_true rfl) rfl ?_
  refine z_aload_n (pc := 10) hG 0 rfl rfl dX10_near_10 ?_
  refine z_getr (pc := 11) hG zc_X10 inX10 DL_0 1 rfl (by decide) rfl w280 dX10_near_11 ?_
  refine z_aload_n (pc := 14) hG 0 rfl rfl dX10_near_14 ?_
  refine z_getr (pc := 15) hG zc_X10 inX10 DL_0 6 rfl (by decide) rfl w285 dX10_near_15 ?_
  refine z_iload_n (pc := 18) hG 1 rfl rfl dX10_near_18 ?_
  replace h := zbind h
  obtain ⟨v3, hv3, h⟩ := h
  refine z_cvI (pc := 19) (A' := 0) (B' := 0) hG [.int a1] [.ref 3] zc_X8 DL_31 (tX8_codeOf hl0 a1 g hv3) zy_X8_codeOf ⟨w992, w993⟩ w991 dX10_near_19 rfl (Nat.le_of_ble_eq_true rfl) rfl rfl rfl (Nat.le_of_ble_eq_true rfl) rfl ?_
  refine z_aload_n (pc := 22) hG 0 rfl rfl dX10_near_22 ?_
  refine z_getr (pc := 23) hG zc_X10 inX10 DL_0 6 rfl (by decide) rfl w285 dX10_near_23 ?_
  refine z_iload_n (pc := 26) hG 2 rfl rfl dX10_near_26 ?_
  replace h := zbind h
  obtain ⟨v4, hv4, h⟩ := h
  refine z_cvI (pc := 27) (A' := 0) (B' := 0) hG [.int a2] [.int v3, .ref 3] zc_X8 DL_31 (tX8_codeOf hl0 a2 g hv4) zy_X8_codeOf ⟨w992, w993⟩ w991 dX10_near_27 rfl (Nat.le_of_ble_eq_true rfl) rfl rfl rfl (Nat.le_of_ble_eq_true rfl) rfl ?_
  refine z_iconst (pc := 30) hG kc_0 dX10_near_30 ?_
  replace h := zbind h
  obtain ⟨v5, hv5, h⟩ := h
  refine z_cvI (pc := 31) (A' := 0) (B' := 0) hG [.int v3, .int v4, .int (0 : Int32)] [] zc_X6 DL_3 (tX6_farApart hl0 v3 v4 (0 : Int32) g hv5) zy_X6_farApart ⟨w1223, w1224⟩ w1353 dX10_near_31 rfl (Nat.le_of_ble_eq_true rfl) rfl rfl rfl (Nat.le_of_ble_eq_true rfl) rfl ?_
  obtain rfl := Option.some.inj h
  exact z_iret (pc := 34) hG rfl rfl hk dX10_near_34
noncomputable def jX10_bunch_10 (a1 : Int32) (a2 : Int32) (g : zS) : Option ((Int32 ⊕ String) × zS) :=
  (nX4_gatherBunches a2 g).bind fun v1 => if a1 = (-1 : Int32) then (some ((.inl v1.1, v1.2))) else ((nX4_bunchOf a1 v1.2).bind fun v2 => some ((.inl v2, v1.2)))
noncomputable def nX10_bunch (a1 : Int32) (a2 : Int32) (g : zS) : Option ((Int32 ⊕ String) × zS) :=
  if a1 = (-1 : Int32) then (jX10_bunch_10 a1 a2 g) else ((nX10_needRow a1 g).bind fun v3 => zel v3 (fun w3 => jX10_bunch_10 a1 a2 g) (fun e => some ((.inr e, g))))
set_option maxHeartbeats 60000 in
theorem kjX10_bunch_10 {x : zXx} (hG : zG x cX10_bunch 4 RX10 ((Option.some Jvm.ClassFile.FieldType.int))) (hl0 : (zl0 x).flags = flags0) (a1 : Int32) (a2 : Int32) (g : zS) {o : ((Int32 ⊕ String) × zS)} (h : jX10_bunch_10 a1 a2 g = some o) (hk : ztg x = (ztI o.1, zD, o.2)) : zK x 9 10 [(0, .ref 0), (1, .int a1), (2, .int a2)] [] zD g 0 0 := by
  unfold jX10_bunch_10 at h
  refine z_aload_n (pc := 10) hG 0 rfl rfl dX10_bunch_10 ?_
  refine z_getr (pc := 11) hG zc_X10 inX10 DL_0 8 rfl (by decide) rfl w287 dX10_bunch_11 ?_
  refine z_iload_n (pc := 14) hG 2 rfl rfl dX10_bunch_14 ?_
  replace h := zbind h
  obtain ⟨v1, hv1, h⟩ := h
  refine z_cvI (pc := 15) (A' := 0) (B' := 0) hG [.int a2] [] zc_X4 DL_37 (tX4_gatherBunches hl0 a2 g hv1) zy_X4_gatherBunches ⟨w1362, w1363⟩ w1361 dX10_bunch_15 rfl (Nat.le_of_ble_eq_true rfl) rfl rfl rfl (Nat.le_of_ble_eq_true rfl) rfl ?_
  refine z_istore_n (pc := 18) (ls' := [(3, .int v1.1), (0, .ref 0), (1, .int a1), (2, .int a2)]) hG [0, 1, 2, 3] rfl (by decide) rfl dX10_bunch_18 ?_
  refine z_iload_n (pc := 19) hG 2 rfl rfl dX10_bunch_19 ?_
  refine z_iconst (pc := 20) hG kc_m1 dX10_bunch_20 ?_
  refine z_icmp_ne (pc := 21) (tgt := 28) hG dX10_bunch_21 rfl (fun hc => ?_) (fun hc => ?_)
  · replace h := zif_f hc h
    refine z_aload_n (pc := 28) hG 1 rfl rfl dX10_bunch_28 ?_
    refine z_getr (pc := 29) hG zc_X10 inX10 DL_0 8 rfl (by decide) rfl w287 dX10_bunch_29 ?_
    refine z_iload_n (pc := 32) hG 2 rfl rfl dX10_bunch_32 ?_
    replace h := zbind h
    obtain ⟨v2, hv2, h⟩ := h
    refine z_cvI (pc := 33) (A' := 0) (B' := 0) hG [.int a1] [] zc_X4 DL_37 (tX4_bunchOf hl0 a1 v1.2 hv2) zy_X4_bunchOf ⟨w1373, w1374⟩ w1372 dX10_bunch_33 rfl (Nat.le_of_ble_eq_true rfl) rfl rfl rfl (Nat.le_of_ble_eq_true rfl) rfl ?_
    obtain rfl := Option.some.inj h
    exact z_iret (pc := 36) hG rfl rfl hk dX10_bunch_36
  · replace h := zif_t hc h
    refine z_iload_n (pc := 24) hG 0 rfl rfl dX10_bunch_24 ?_
    refine z_goto (pc := 25) (tgt := 36) hG dX10_bunch_25 rfl ?_
    obtain rfl := Option.some.inj h
    exact z_iret (pc := 36) hG rfl rfl hk dX10_bunch_36
set_option maxHeartbeats 60000 in
theorem tX10_bunch {l : Launch} (hl0 : l.flags = flags0) (a1 : Int32) (a2 : Int32) (g : zS) {r : ((Int32 ⊕ String) × zS)} (h : nX10_bunch a1 a2 g = some r) : zC l yX10_bunch cX10_bunch 4 ((Option.some Jvm.ClassFile.FieldType.int)) 9 1 6 [.ref 0, .int a1, .int a2] zD g (ztI r.1, zD, r.2) := by
  refine zC_of hl0 rfl (Nat.le_of_ble_eq_true rfl) (fun x hG hxl hk _ => ?_)
  subst hxl
  show zK x 9 0 [(0, .ref 0), (1, .int a1), (2, .int a2)] [] zD g 1 6
  unfold nX10_bunch at h
  refine z_iload_n (pc := 0) hG 1 rfl rfl dX10_bunch_0 ?_
  refine z_iconst (pc := 1) hG kc_m1 dX10_bunch_1 ?_
  refine z_icmp_eq (pc := 2) (tgt := 10) hG dX10_bunch_2 rfl (fun hc => ?_) (fun hc => ?_)
  · replace h := zif_t hc h
    refine z_wk (A' := 0) (B' := 0) (by decide) (by decide) ?_
    exact kjX10_bunch_10 hG hl0 a1 a2 g h hk
  · replace h := zif_f hc h
    refine z_aload_n (pc := 5) hG 0 rfl rfl dX10_bunch_5 ?_
    refine z_iload_n (pc := 6) hG 1 rfl rfl dX10_bunch_6 ?_
    replace h := zbind h
    obtain ⟨w3 | e, hv3, h⟩ := h
    rotate_left
    · replace h := zel_r h
      obtain rfl := Option.some.inj h
      exact z_cvX (pc := 7) hG [.int a1] [] zc_X10 DL_0 (tX10_needRow hl0 a1 g hv3) zy_X10_needRow ⟨w989, wp41⟩ w987 dX10_bunch_7 rfl (Nat.le_of_ble_eq_true rfl) (Nat.le_of_ble_eq_true rfl) (Nat.le_of_ble_eq_true rfl) (Nat.le_of_ble_eq_true rfl) rfl hk
    replace h := zel_l h
    refine z_cvV (pc := 7) (A' := 0) (B' := 0) hG [.int a1] [] zc_X10 DL_0 (tX10_needRow hl0 a1 g hv3) zy_X10_needRow ⟨w989, wp41⟩ w987 dX10_bunch_7 rfl (Nat.le_of_ble_eq_true rfl) rfl rfl rfl (Nat.le_of_ble_eq_true rfl) rfl ?_
    exact kjX10_bunch_10 hG hl0 a1 a2 g h hk
noncomputable def nX10_changes (a1 : Int32) (g : zS) : Option (Int32 ⊕ String) :=
  (nX10_needField a1 g).bind fun v1 => zel v1 (fun w1 => (nX4_countChanges a1 g).bind fun v2 => some (.inl v2)) (fun e => some (.inr e))
set_option maxHeartbeats 60000 in
theorem tX10_changes {l : Launch} (hl0 : l.flags = flags0) (a1 : Int32) (g : zS) {r : (Int32 ⊕ String)} (h : nX10_changes a1 g = some r) : zC l yX10_changes cX10_changes 2 ((Option.some Jvm.ClassFile.FieldType.int)) 9 1 6 [.ref 0, .int a1] zD g (ztI r, zD, g) := by
  refine zC_of hl0 rfl (Nat.le_of_ble_eq_true rfl) (fun x hG hxl hk _ => ?_)
  subst hxl
  show zK x 9 0 [(0, .ref 0), (1, .int a1)] [] zD g 1 6
  unfold nX10_changes at h
  refine z_aload_n (pc := 0) hG 0 rfl rfl dX10_changes_0 ?_
  refine z_iload_n (pc := 1) hG 1 rfl rfl dX10_changes_1 ?_
  replace h := zbind h
  obtain ⟨w1 | e, hv1, h⟩ := h
  rotate_left
  · replace h := zel_r h
    obtain rfl := Option.some.inj h
    exact z_cvX (pc := 2) hG [.int a1] [] zc_X10 DL_0 (tX10_needField hl0 a1 g hv1) zy_X10_needField ⟨w835, wp35⟩ w833 dX10_changes_2 rfl (Nat.le_of_ble_eq_true rfl) (Nat.le_of_ble_eq_true rfl) (Nat.le_of_ble_eq_true rfl) (Nat.le_of_ble_eq_true rfl) rfl hk
  replace h := zel_l h
  refine z_cvV (pc := 2) (A' := 0) (B' := 0) hG [.int a1] [] zc_X10 DL_0 (tX10_needField hl0 a1 g hv1) zy_X10_needField ⟨w835, wp35⟩ w833 dX10_changes_2 rfl (Nat.le_of_ble_eq_true rfl) rfl rfl rfl (Nat.le_of_ble_eq_true rfl) rfl ?_
  refine z_aload_n (pc := 5) hG 0 rfl rfl dX10_changes_5 ?_
  refine z_getr (pc := 6) hG zc_X10 inX10 DL_0 8 rfl (by decide) rfl w287 dX10_changes_6 ?_
  refine z_iload_n (pc := 9) hG 1 rfl rfl dX10_changes_9 ?_
  replace h := zbind h
  obtain ⟨v2, hv2, h⟩ := h
  refine z_cvI (pc := 10) (A' := 0) (B' := 0) hG [.int a1] [] zc_X4 DL_37 (tX4_countChanges hl0 a1 g hv2) zy_X4_countChanges ⟨w1384, w1385⟩ w1383 dX10_changes_10 rfl (Nat.le_of_ble_eq_true rfl) rfl rfl rfl (Nat.le_of_ble_eq_true rfl) rfl ?_
  obtain rfl := Option.some.inj h
  exact z_iret (pc := 13) hG rfl rfl hk dX10_changes_13
noncomputable def nX10_unlike (g : zS) : Option (Int32 × zS) :=
  (nX4_countUnlike g).bind fun v1 => some ((v1.1, v1.2))
set_option maxHeartbeats 60000 in
theorem tX10_unlike {l : Launch} (hl0 : l.flags = flags0) (g : zS) {r : (Int32 × zS)} (h : nX10_unlike g = some r) : zC l yX10_unlike cX10_unlike 1 ((Option.some Jvm.ClassFile.FieldType.int)) 3 0 0 [.ref 0] zD g (.inl (some (.int r.1)), zD, r.2) := by
  refine zC_of hl0 rfl (Nat.le_of_ble_eq_true rfl) (fun x hG hxl hk _ => ?_)
  subst hxl
  show zK x 3 0 [(0, .ref 0)] [] zD g 0 0
  unfold nX10_unlike at h
  refine z_aload_n (pc := 0) hG 0 rfl rfl dX10_unlike_0 ?_
  refine z_getr (pc := 1) hG zc_X10 inX10 DL_0 8 rfl (by decide) rfl w287 dX10_unlike_1 ?_
  replace h := zbind h
  obtain ⟨v1, hv1, h⟩ := h
  refine z_cvI (pc := 4) (A' := 0) (B' := 0) hG [] [] zc_X4 DL_37 (tX4_countUnlike hl0  g hv1) zy_X4_countUnlike ⟨w518, w519⟩ w517 dX10_unlike_4 rfl (Nat.le_of_ble_eq_true rfl) rfl rfl rfl (Nat.le_of_ble_eq_true rfl) rfl ?_
  obtain rfl := Option.some.inj h
  exact z_iret (pc := 7) hG rfl rfl hk dX10_unlike_7
noncomputable def nX10_needGroup (a1 : Int32) (g : zS) : Option (Unit ⊕ String) :=
  if (g.1 3 6) = (-1 : Int32) then (some (.inr "java/lang/IllegalStateException")) else ((nX10_needValue (g.1 3 6) a1 g).bind fun v1 => zel v1 (fun w1 => some (.inl ())) (fun e => some (.inr e)))
set_option maxHeartbeats 60000 in
theorem tX10_needGroup {l : Launch} (hl0 : l.flags = flags0) (a1 : Int32) (g : zS) {r : (Unit ⊕ String)} (h : nX10_needGroup a1 g = some r) : zC l yX10_needGroup cX10_needGroup 2 ((Option.none : Option Jvm.ClassFile.FieldType)) 9 1 6 [.ref 0, .int a1] zD g (ztV r, zD, g) := by
  refine zC_of hl0 rfl (Nat.le_of_ble_eq_true rfl) (fun x hG hxl hk _ => ?_)
  subst hxl
  show zK x 9 0 [(0, .ref 0), (1, .int a1)] [] zD g 1 6
  unfold nX10_needGroup at h
  refine z_aload_n (pc := 0) hG 0 rfl rfl dX10_needGroup_0 ?_
  refine z_getr (pc := 1) hG zc_X10 inX10 DL_0 1 rfl (by decide) rfl w280 dX10_needGroup_1 ?_
  refine z_geti (pc := 4) hG zc_X6 inX6 DL_3 6 rfl (by decide) rfl w85 dX10_needGroup_4 ?_
  refine z_iconst (pc := 7) hG kc_m1 dX10_needGroup_7 ?_
  refine z_icmp_ne (pc := 8) (tgt := 19) hG dX10_needGroup_8 rfl (fun hc => ?_) (fun hc => ?_)
  · replace h := zif_f hc h
    refine z_aload_n (pc := 19) hG 0 rfl rfl dX10_needGroup_19 ?_
    refine z_aload_n (pc := 20) hG 0 rfl rfl dX10_needGroup_20 ?_
    refine z_getr (pc := 21) hG zc_X10 inX10 DL_0 1 rfl (by decide) rfl w280 dX10_needGroup_21 ?_
    refine z_geti (pc := 24) hG zc_X6 inX6 DL_3 6 rfl (by decide) rfl w85 dX10_needGroup_24 ?_
    refine z_iload_n (pc := 27) hG 1 rfl rfl dX10_needGroup_27 ?_
    replace h := zbind h
    obtain ⟨w1 | e, hv1, h⟩ := h
    rotate_left
    · replace h := zel_r h
      obtain rfl := Option.some.inj h
      exact z_cvX (pc := 28) hG [.int (g.1 3 6), .int a1] [] zc_X10 DL_0 (tX10_needValue hl0 (g.1 3 6) a1 g hv1) zy_X10_needValue ⟨w1005, wp42⟩ w1003 dX10_needGroup_28 rfl (Nat.le_of_ble_eq_true rfl) (Nat.le_of_ble_eq_true rfl) (Nat.le_of_ble_eq_true rfl) (Nat.le_of_ble_eq_true rfl) rfl hk
    replace h := zel_l h
    refine z_cvV (pc := 28) (A' := 0) (B' := 0) hG [.int (g.1 3 6), .int a1] [] zc_X10 DL_0 (tX10_needValue hl0 (g.1 3 6) a1 g hv1) zy_X10_needValue ⟨w1005, wp42⟩ w1003 dX10_needGroup_28 rfl (Nat.le_of_ble_eq_true rfl) rfl rfl rfl (Nat.le_of_ble_eq_true rfl) rfl ?_
    obtain rfl := Option.some.inj h
    exact z_vret (pc := 31) hG rfl hk dX10_needGroup_31
  · replace h := zif_t hc h
    obtain rfl := Option.some.inj h
    exact z_throw (pc := 11) hG (by decide) (by decide) w1020 w27 hatRX10_222 hbdRX10_222 hgdRX10_222 (by decide) (Nat.le_of_ble_eq_true rfl) (Nat.le_of_ble_eq_true rfl) (Nat.le_of_ble_eq_true rfl) (Nat.le_of_ble_eq_true rfl) dX10_needGroup_11 dX10_needGroup_14 dX10_needGroup_15 dX10_needGroup_18 hk
noncomputable def nX10_group (a1 : Int32) (a2 : Int32) (g : zS) : Option (Int32 ⊕ String) :=
  (nX10_needGroup a1 g).bind fun v1 => zel v1 (fun w1 => if a2 = 0 then ((nX4_countInGroup a1 (0 : Int32) g).bind fun v2 => some (.inl v2)) else (if a2 = 1 then ((nX4_countInGroup a1 (1 : Int32) g).bind fun v3 => some (.inl v3)) else (some (.inr "java/util/NoSuchElementException")))) (fun e => some (.inr e))
set_option maxHeartbeats 60000 in
theorem tX10_group {l : Launch} (hl0 : l.flags = flags0) (a1 : Int32) (a2 : Int32) (g : zS) {r : (Int32 ⊕ String)} (h : nX10_group a1 a2 g = some r) : zC l yX10_group cX10_group 3 ((Option.some Jvm.ClassFile.FieldType.int)) 10 2 12 [.ref 0, .int a1, .int a2] zD g (ztI r, zD, g) := by
  refine zC_of hl0 rfl (Nat.le_of_ble_eq_true rfl) (fun x hG hxl hk _ => ?_)
  subst hxl
  show zK x 10 0 [(0, .ref 0), (1, .int a1), (2, .int a2)] [] zD g 2 12
  unfold nX10_group at h
  refine z_aload_n (pc := 0) hG 0 rfl rfl dX10_group_0 ?_
  refine z_iload_n (pc := 1) hG 1 rfl rfl dX10_group_1 ?_
  replace h := zbind h
  obtain ⟨w1 | e, hv1, h⟩ := h
  rotate_left
  · replace h := zel_r h
    obtain rfl := Option.some.inj h
    exact z_cvX (pc := 2) hG [.int a1] [] zc_X10 DL_0 (tX10_needGroup hl0 a1 g hv1) zy_X10_needGroup ⟨w1397, wp60⟩ w1395 dX10_group_2 rfl (Nat.le_of_ble_eq_true rfl) (Nat.le_of_ble_eq_true rfl) (Nat.le_of_ble_eq_true rfl) (Nat.le_of_ble_eq_true rfl) rfl hk
  replace h := zel_l h
  refine z_cvV (pc := 2) (A' := 1) (B' := 6) hG [.int a1] [] zc_X10 DL_0 (tX10_needGroup hl0 a1 g hv1) zy_X10_needGroup ⟨w1397, wp60⟩ w1395 dX10_group_2 rfl (Nat.le_of_ble_eq_true rfl) rfl rfl rfl (Nat.le_of_ble_eq_true rfl) rfl ?_
  refine z_iload_n (pc := 5) hG 2 rfl rfl dX10_group_5 ?_
  by_cases hc0 : a2 = 0
  · replace h := zif_t hc0 h
    refine z_look (pc := 6) (tgt := 32) (off := 26) hG dX10_group_6 (by decide) (by rw [hc0]; try rfl) rfl ?_
    refine z_aload_n (pc := 32) hG 0 rfl rfl dX10_group_32 ?_
    refine z_getr (pc := 33) hG zc_X10 inX10 DL_0 8 rfl (by decide) rfl w287 dX10_group_33 ?_
    refine z_iload_n (pc := 36) hG 1 rfl rfl dX10_group_36 ?_
    refine z_iconst (pc := 37) hG kc_0 dX10_group_37 ?_
    replace h := zbind h
    obtain ⟨v2, hv2, h⟩ := h
    refine z_cvI (pc := 38) (A' := 1) (B' := 6) hG [.int a1, .int (0 : Int32)] [] zc_X4 DL_37 (tX4_countInGroup hl0 a1 (0 : Int32) g hv2) zy_X4_countInGroup ⟨w1400, w1401⟩ w1399 dX10_group_38 rfl (Nat.le_of_ble_eq_true rfl) rfl rfl rfl (Nat.le_of_ble_eq_true rfl) rfl ?_
    obtain rfl := Option.some.inj h
    exact z_iret (pc := 41) hG rfl rfl hk dX10_group_41
  replace h := zif_f hc0 h
  by_cases hc1 : a2 = 1
  · replace h := zif_t hc1 h
    refine z_look (pc := 6) (tgt := 42) (off := 36) hG dX10_group_6 (by decide) (by rw [hc1]; try rfl) rfl ?_
    refine z_aload_n (pc := 42) hG 0 rfl rfl dX10_group_42 ?_
    refine z_getr (pc := 43) hG zc_X10 inX10 DL_0 8 rfl (by decide) rfl w287 dX10_group_43 ?_
    refine z_iload_n (pc := 46) hG 1 rfl rfl dX10_group_46 ?_
    refine z_iconst (pc := 47) hG kc_1 dX10_group_47 ?_
    replace h := zbind h
    obtain ⟨v3, hv3, h⟩ := h
    refine z_cvI (pc := 48) (A' := 1) (B' := 6) hG [.int a1, .int (1 : Int32)] [] zc_X4 DL_37 (tX4_countInGroup hl0 a1 (1 : Int32) g hv3) zy_X4_countInGroup ⟨w1400, w1401⟩ w1399 dX10_group_48 rfl (Nat.le_of_ble_eq_true rfl) rfl rfl rfl (Nat.le_of_ble_eq_true rfl) rfl ?_
    obtain rfl := Option.some.inj h
    exact z_iret (pc := 51) hG rfl rfl hk dX10_group_51
  replace h := zif_f hc1 h
  refine z_look (pc := 6) (tgt := 52) (off := 46) hG dX10_group_6 (by decide) (by
    have q0 : ¬ (0 : Int) = (a2).toInt := fun q => zne_toInt hc0 q.symm
    have q1 : ¬ (1 : Int) = (a2).toInt := fun q => zne_toInt hc1 q.symm
    simp [Op.lookupswitch.offset, q0, q1]) rfl ?_
  obtain rfl := Option.some.inj h
  exact z_throw (pc := 52) hG (by decide) (by decide) w852 w25 hatRX10_145 hbdRX10_145 hgdRX10_145 (by decide) (Nat.le_of_ble_eq_true rfl) (Nat.le_of_ble_eq_true rfl) (Nat.le_of_ble_eq_true rfl) (Nat.le_of_ble_eq_true rfl) dX10_group_52 dX10_group_55 dX10_group_56 dX10_group_59 hk
noncomputable def jX10_usual_15 (a1 : Int32) (a2 : Int32) (g : zS) : Option (Int32 ⊕ String) :=
  (nX4_usualIn a1 a2 g).bind fun v2 => some (.inl v2)
noncomputable def nX10_usual (a1 : Int32) (a2 : Int32) (g : zS) : Option (Int32 ⊕ String) :=
  (nX10_needField a2 g).bind fun v1 => zel v1 (fun w1 => if a1 = (-1 : Int32) then (jX10_usual_15 a1 a2 g) else ((nX10_needGroup a1 g).bind fun v3 => zel v3 (fun w3 => jX10_usual_15 a1 a2 g) (fun e => some (.inr e)))) (fun e => some (.inr e))
set_option maxHeartbeats 60000 in
theorem kjX10_usual_15 {x : zXx} (hG : zG x cX10_usual 3 RX10 ((Option.some Jvm.ClassFile.FieldType.int))) (hl0 : (zl0 x).flags = flags0) (a1 : Int32) (a2 : Int32) (g : zS) {o : (Int32 ⊕ String)} (h : jX10_usual_15 a1 a2 g = some o) (hk : ztg x = (ztI o, zD, g)) : zK x 10 15 [(0, .ref 0), (1, .int a1), (2, .int a2)] [] zD g 0 0 := by
  unfold jX10_usual_15 at h
  refine z_aload_n (pc := 15) hG 0 rfl rfl dX10_usual_15 ?_
  refine z_getr (pc := 16) hG zc_X10 inX10 DL_0 8 rfl (by decide) rfl w287 dX10_usual_16 ?_
  refine z_iload_n (pc := 19) hG 1 rfl rfl dX10_usual_19 ?_
  refine z_iload_n (pc := 20) hG 2 rfl rfl dX10_usual_20 ?_
  replace h := zbind h
  obtain ⟨v2, hv2, h⟩ := h
  refine z_cvI (pc := 21) (A' := 0) (B' := 0) hG [.int a1, .int a2] [] zc_X4 DL_37 (tX4_usualIn hl0 a1 a2 g hv2) zy_X4_usualIn ⟨w1411, w1412⟩ w1410 dX10_usual_21 rfl (Nat.le_of_ble_eq_true rfl) rfl rfl rfl (Nat.le_of_ble_eq_true rfl) rfl ?_
  obtain rfl := Option.some.inj h
  exact z_iret (pc := 24) hG rfl rfl hk dX10_usual_24
set_option maxHeartbeats 60000 in
theorem tX10_usual {l : Launch} (hl0 : l.flags = flags0) (a1 : Int32) (a2 : Int32) (g : zS) {r : (Int32 ⊕ String)} (h : nX10_usual a1 a2 g = some r) : zC l yX10_usual cX10_usual 3 ((Option.some Jvm.ClassFile.FieldType.int)) 10 2 12 [.ref 0, .int a1, .int a2] zD g (ztI r, zD, g) := by
  refine zC_of hl0 rfl (Nat.le_of_ble_eq_true rfl) (fun x hG hxl hk _ => ?_)
  subst hxl
  show zK x 10 0 [(0, .ref 0), (1, .int a1), (2, .int a2)] [] zD g 2 12
  unfold nX10_usual at h
  refine z_aload_n (pc := 0) hG 0 rfl rfl dX10_usual_0 ?_
  refine z_iload_n (pc := 1) hG 2 rfl rfl dX10_usual_1 ?_
  replace h := zbind h
  obtain ⟨w1 | e, hv1, h⟩ := h
  rotate_left
  · replace h := zel_r h
    obtain rfl := Option.some.inj h
    exact z_cvX (pc := 2) hG [.int a2] [] zc_X10 DL_0 (tX10_needField hl0 a2 g hv1) zy_X10_needField ⟨w835, wp35⟩ w833 dX10_usual_2 rfl (Nat.le_of_ble_eq_true rfl) (Nat.le_of_ble_eq_true rfl) (Nat.le_of_ble_eq_true rfl) (Nat.le_of_ble_eq_true rfl) rfl hk
  replace h := zel_l h
  refine z_cvV (pc := 2) (A' := 1) (B' := 6) hG [.int a2] [] zc_X10 DL_0 (tX10_needField hl0 a2 g hv1) zy_X10_needField ⟨w835, wp35⟩ w833 dX10_usual_2 rfl (Nat.le_of_ble_eq_true rfl) rfl rfl rfl (Nat.le_of_ble_eq_true rfl) rfl ?_
  refine z_iload_n (pc := 5) hG 1 rfl rfl dX10_usual_5 ?_
  refine z_iconst (pc := 6) hG kc_m1 dX10_usual_6 ?_
  refine z_icmp_eq (pc := 7) (tgt := 15) hG dX10_usual_7 rfl (fun hc => ?_) (fun hc => ?_)
  · replace h := zif_t hc h
    refine z_wk (A' := 0) (B' := 0) (by decide) (by decide) ?_
    exact kjX10_usual_15 hG hl0 a1 a2 g h hk
  · replace h := zif_f hc h
    refine z_aload_n (pc := 10) hG 0 rfl rfl dX10_usual_10 ?_
    refine z_iload_n (pc := 11) hG 1 rfl rfl dX10_usual_11 ?_
    replace h := zbind h
    obtain ⟨w3 | e, hv3, h⟩ := h
    rotate_left
    · replace h := zel_r h
      obtain rfl := Option.some.inj h
      exact z_cvX (pc := 12) hG [.int a1] [] zc_X10 DL_0 (tX10_needGroup hl0 a1 g hv3) zy_X10_needGroup ⟨w1397, wp60⟩ w1395 dX10_usual_12 rfl (Nat.le_of_ble_eq_true rfl) (Nat.le_of_ble_eq_true rfl) (Nat.le_of_ble_eq_true rfl) (Nat.le_of_ble_eq_true rfl) rfl hk
    replace h := zel_l h
    refine z_cvV (pc := 12) (A' := 0) (B' := 0) hG [.int a1] [] zc_X10 DL_0 (tX10_needGroup hl0 a1 g hv3) zy_X10_needGroup ⟨w1397, wp60⟩ w1395 dX10_usual_12 rfl (Nat.le_of_ble_eq_true rfl) rfl rfl rfl (Nat.le_of_ble_eq_true rfl) rfl ?_
    exact kjX10_usual_15 hG hl0 a1 a2 g h hk
noncomputable def nX10_share (a1 : Int32) (a2 : Int32) (g : zS) : Option (Int32 ⊕ String) :=
  (nX10_needField a1 g).bind fun v1 => zel v1 (fun w1 => (nX10_needValue a1 a2 g).bind fun v2 => zel v2 (fun w2 => (nX4_shareOf a1 a2 g).bind fun v3 => some (.inl v3)) (fun e => some (.inr e))) (fun e => some (.inr e))
set_option maxHeartbeats 60000 in
theorem tX10_share {l : Launch} (hl0 : l.flags = flags0) (a1 : Int32) (a2 : Int32) (g : zS) {r : (Int32 ⊕ String)} (h : nX10_share a1 a2 g = some r) : zC l yX10_share cX10_share 3 ((Option.some Jvm.ClassFile.FieldType.int)) 9 2 12 [.ref 0, .int a1, .int a2] zD g (ztI r, zD, g) := by
  refine zC_of hl0 rfl (Nat.le_of_ble_eq_true rfl) (fun x hG hxl hk _ => ?_)
  subst hxl
  show zK x 9 0 [(0, .ref 0), (1, .int a1), (2, .int a2)] [] zD g 2 12
  unfold nX10_share at h
  refine z_aload_n (pc := 0) hG 0 rfl rfl dX10_share_0 ?_
  refine z_iload_n (pc := 1) hG 1 rfl rfl dX10_share_1 ?_
  replace h := zbind h
  obtain ⟨w1 | e, hv1, h⟩ := h
  rotate_left
  · replace h := zel_r h
    obtain rfl := Option.some.inj h
    exact z_cvX (pc := 2) hG [.int a1] [] zc_X10 DL_0 (tX10_needField hl0 a1 g hv1) zy_X10_needField ⟨w835, wp35⟩ w833 dX10_share_2 rfl (Nat.le_of_ble_eq_true rfl) (Nat.le_of_ble_eq_true rfl) (Nat.le_of_ble_eq_true rfl) (Nat.le_of_ble_eq_true rfl) rfl hk
  replace h := zel_l h
  refine z_cvV (pc := 2) (A' := 1) (B' := 6) hG [.int a1] [] zc_X10 DL_0 (tX10_needField hl0 a1 g hv1) zy_X10_needField ⟨w835, wp35⟩ w833 dX10_share_2 rfl (Nat.le_of_ble_eq_true rfl) rfl rfl rfl (Nat.le_of_ble_eq_true rfl) rfl ?_
  refine z_aload_n (pc := 5) hG 0 rfl rfl dX10_share_5 ?_
  refine z_iload_n (pc := 6) hG 1 rfl rfl dX10_share_6 ?_
  refine z_iload_n (pc := 7) hG 2 rfl rfl dX10_share_7 ?_
  replace h := zbind h
  obtain ⟨w2 | e, hv2, h⟩ := h
  rotate_left
  · replace h := zel_r h
    obtain rfl := Option.some.inj h
    exact z_cvX (pc := 8) hG [.int a1, .int a2] [] zc_X10 DL_0 (tX10_needValue hl0 a1 a2 g hv2) zy_X10_needValue ⟨w1005, wp42⟩ w1003 dX10_share_8 rfl (Nat.le_of_ble_eq_true rfl) (Nat.le_of_ble_eq_true rfl) (Nat.le_of_ble_eq_true rfl) (Nat.le_of_ble_eq_true rfl) rfl hk
  replace h := zel_l h
  refine z_cvV (pc := 8) (A' := 0) (B' := 0) hG [.int a1, .int a2] [] zc_X10 DL_0 (tX10_needValue hl0 a1 a2 g hv2) zy_X10_needValue ⟨w1005, wp42⟩ w1003 dX10_share_8 rfl (Nat.le_of_ble_eq_true rfl) rfl rfl rfl (Nat.le_of_ble_eq_true rfl) rfl ?_
  refine z_aload_n (pc := 11) hG 0 rfl rfl dX10_share_11 ?_
  refine z_getr (pc := 12) hG zc_X10 inX10 DL_0 8 rfl (by decide) rfl w287 dX10_share_12 ?_
  refine z_iload_n (pc := 15) hG 1 rfl rfl dX10_share_15 ?_
  refine z_iload_n (pc := 16) hG 2 rfl rfl dX10_share_16 ?_
  replace h := zbind h
  obtain ⟨v3, hv3, h⟩ := h
  refine z_cvI (pc := 17) (A' := 0) (B' := 0) hG [.int a1, .int a2] [] zc_X4 DL_37 (tX4_shareOf hl0 a1 a2 g hv3) zy_X4_shareOf ⟨w1098, w1099⟩ w1421 dX10_share_17 rfl (Nat.le_of_ble_eq_true rfl) rfl rfl rfl (Nat.le_of_ble_eq_true rfl) rfl ?_
  obtain rfl := Option.some.inj h
  exact z_iret (pc := 20) hG rfl rfl hk dX10_share_20
noncomputable def wX10_write_16 (a2 : Int32) (s : (Int32 × zS)) : Option ((Int32 × zS) ⊕ ((Int32 ⊕ String) × zS)) :=
  if (s.2.1 3 0) ≤ s.1 then (zex (some ((.inl ((zi s.2 0 11 (s.2.1 3 0)).1 0 11), (zi s.2 0 11 (s.2.1 3 0)))))) else ((nX1_answerAt a2 s.1).bind fun v3 => if v3 = (-1 : Int32) then (zchk (zin s.1 5) (some (.inl ((s.1 + (1 : Int32)), (zi s.2 41 s.1.toNatClampNeg (vp_nar .byte (63 : Int32).toInt8.toInt32)))))) else (zchk (zin s.1 5) (some (.inl ((s.1 + (1 : Int32)), (zi s.2 41 s.1.toNatClampNeg (vp_nar .byte ((48 : Int32) + v3).toInt8.toInt32)))))))
noncomputable def nX10_write (a1 : Int32) (g : zS) : Option ((Int32 ⊕ String) × zS) :=
  (nX10_needRow a1 g).bind fun v1 => zel v1 (fun w1 => (nX8_codeOf a1 g).bind fun v2 => wh (wX10_write_16 v2) ((0 : Int32), g)) (fun e => some ((.inr e, g)))
def qX10_write_16 (x : zXx) (a2 : Int32) (o : (Int32 × zS) ⊕ ((Int32 ⊕ String) × zS)) : Prop := match o with
  | .inl s => zK x 9 16 [(0, .ref 0), (2, .int a2), (3, .int s.1)] [] zD s.2 0 0
  | .inr r => ztg x = (ztI r.1, zD, r.2)
set_option maxHeartbeats 60000 in
theorem kwX10_write_16 {x : zXx} (hG : zG x cX10_write 5 RX10 ((Option.some Jvm.ClassFile.FieldType.int))) (hl0 : (zl0 x).flags = flags0) (a2 : Int32) {o : ((Int32 ⊕ String) × zS)} (hk : ztg x = (ztI o.1, zD, o.2)) : ∀ s : (Int32 × zS), wh (wX10_write_16 a2) s = some o → zK x 9 16 [(0, .ref 0), (2, .int a2), (3, .int s.1)] [] zD s.2 0 0 := by
  refine wh_ind (fun s : (Int32 × zS) => zK x 9 16 [(0, .ref 0), (2, .int a2), (3, .int s.1)] [] zD s.2 0 0) (fun s o h hk2 => ?_)
  replace hk : qX10_write_16 x a2 o := by
    cases o with
    | inl s => exact hk2
    | inr r => subst hk2; exact hk
  clear hk2
  unfold wX10_write_16 at h
  refine z_iload_n (pc := 16) hG 2 rfl rfl dX10_write_16 ?_
  refine z_aload_n (pc := 17) hG 0 rfl rfl dX10_write_17 ?_
  refine z_getr (pc := 18) hG zc_X10 inX10 DL_0 1 rfl (by decide) rfl w280 dX10_write_18 ?_
  refine z_geti (pc := 21) hG zc_X6 inX6 DL_3 0 rfl (by decide) rfl w63 dX10_write_21 ?_
  refine z_icmp_ge (pc := 24) (tgt := 63) hG dX10_write_24 rfl (fun hc => ?_) (fun hc => ?_)
  · replace h := zif_t hc h
    replace h := zex_some h
    obtain ⟨o, h, rfl⟩ := h
    refine z_aload_n (pc := 63) hG 0 rfl rfl dX10_write_63 ?_
    refine z_aload_n (pc := 64) hG 0 rfl rfl dX10_write_64 ?_
    refine z_getr (pc := 65) hG zc_X10 inX10 DL_0 1 rfl (by decide) rfl w280 dX10_write_65 ?_
    refine z_geti (pc := 68) hG zc_X6 inX6 DL_3 0 rfl (by decide) rfl w63 dX10_write_68 ?_
    refine z_puti (pc := 71) hG zc_X10 inX10 tyX10 tyX10_ok nmX10 DL_0 11 rfl (by decide) rfl w290 rfl rfl rfl dX10_write_71 ?_
    refine z_aload_n (pc := 74) hG 0 rfl rfl dX10_write_74 ?_
    refine z_geti (pc := 75) hG zc_X10 inX10 DL_0 11 rfl (by decide) rfl w290 dX10_write_75 ?_
    obtain rfl := Option.some.inj h
    exact z_iret (pc := 78) hG rfl rfl hk dX10_write_78
  · replace h := zif_f hc h
    refine z_iload_n (pc := 27) hG 1 rfl rfl dX10_write_27 ?_
    refine z_iload_n (pc := 28) hG 2 rfl rfl dX10_write_28 ?_
    replace h := zbind h
    obtain ⟨v3, hv3, h⟩ := h
    refine z_csI (pc := 29) (A' := 0) (B' := 0) hG [.int a2, .int s.1] [] (tX1_answerAt hl0 a2 s.1 s.2 hv3) zy_X1_answerAt w435 w995 dX10_write_29 rfl (Nat.le_of_ble_eq_true rfl) rfl rfl rfl (Nat.le_of_ble_eq_true rfl) rfl ?_
    refine z_istore (pc := 32) (ls' := [(4, .int v3), (0, .ref 0), (2, .int a2), (3, .int s.1)]) hG [0, 1, 2, 3] (by decide) rfl dX10_write_32 ?_
    refine z_aload_n (pc := 34) hG 1 rfl rfl dX10_write_34 ?_
    refine z_getr (pc := 35) hG zc_X10 inX10 DL_0 10 rfl (by decide) rfl w289 dX10_write_35 ?_
    refine z_iload_n (pc := 38) hG 3 rfl rfl dX10_write_38 ?_
    refine z_iload (pc := 39) hG 0 rfl dX10_write_39 ?_
    refine z_iconst (pc := 41) hG kc_m1 dX10_write_41 ?_
    refine z_icmp_ne (pc := 42) (tgt := 50) hG dX10_write_42 rfl (fun hc => ?_) (fun hc => ?_)
    · replace h := zif_f hc h
      refine z_bipush (pc := 50) hG kb_48 dX10_write_50 ?_
      refine z_iload (pc := 52) hG 0 rfl dX10_write_52 ?_
      refine z_iadd (pc := 54) hG dX10_write_54 ?_
      refine z_i2b (pc := 55) hG dX10_write_55 ?_
      replace h := zchk_some h
      obtain ⟨hc, h⟩ := h
      refine z_bast (pc := 56) hG DL_41 (zin_in hc) dX10_write_56 ?_
      refine z_iinc (pc := 57) (ls' := [(3, .int (s.1 + (1 : Int32))), (4, .int v3), (0, .ref 0), (2, .int a2)]) hG 3 rfl [0, 1, 2, 3] (ki_1 _) (by decide) rfl dX10_write_57 ?_
      refine z_goto (pc := 60) (tgt := 16) hG dX10_write_60 rfl ?_
      obtain rfl := Option.some.inj h
      refine z_sub (ls' := [(0, .ref 0), (2, .int a2), (3, .int (s.1 + (1 : Int32)))]) [2, 3, 0] rfl ?_
      exact hk
    · replace h := zif_t hc h
      refine z_bipush (pc := 45) hG kb_63 dX10_write_45 ?_
      refine z_goto (pc := 47) (tgt := 55) hG dX10_write_47 rfl ?_
      refine z_i2b (pc := 55) hG dX10_write_55 ?_
      replace h := zchk_some h
      obtain ⟨hc, h⟩ := h
      refine z_bast (pc := 56) hG DL_41 (zin_in hc) dX10_write_56 ?_
      refine z_iinc (pc := 57) (ls' := [(3, .int (s.1 + (1 : Int32))), (4, .int v3), (0, .ref 0), (2, .int a2)]) hG 3 rfl [0, 1, 2, 3] (ki_1 _) (by decide) rfl dX10_write_57 ?_
      refine z_goto (pc := 60) (tgt := 16) hG dX10_write_60 rfl ?_
      obtain rfl := Option.some.inj h
      refine z_sub (ls' := [(0, .ref 0), (2, .int a2), (3, .int (s.1 + (1 : Int32)))]) [2, 3, 0] rfl ?_
      exact hk
set_option maxHeartbeats 60000 in
theorem tX10_write {l : Launch} (hl0 : l.flags = flags0) (a1 : Int32) (g : zS) {r : ((Int32 ⊕ String) × zS)} (h : nX10_write a1 g = some r) : zC l yX10_write cX10_write 5 ((Option.some Jvm.ClassFile.FieldType.int)) 9 1 6 [.ref 0, .int a1] zD g (ztI r.1, zD, r.2) := by
  refine zC_of hl0 rfl (Nat.le_of_ble_eq_true rfl) (fun x hG hxl hk _ => ?_)
  subst hxl
  show zK x 9 0 [(0, .ref 0), (1, .int a1)] [] zD g 1 6
  unfold nX10_write at h
  refine z_aload_n (pc := 0) hG 0 rfl rfl dX10_write_0 ?_
  refine z_iload_n (pc := 1) hG 1 rfl rfl dX10_write_1 ?_
  replace h := zbind h
  obtain ⟨w1 | e, hv1, h⟩ := h
  rotate_left
  · replace h := zel_r h
    obtain rfl := Option.some.inj h
    exact z_cvX (pc := 2) hG [.int a1] [] zc_X10 DL_0 (tX10_needRow hl0 a1 g hv1) zy_X10_needRow ⟨w989, wp41⟩ w987 dX10_write_2 rfl (Nat.le_of_ble_eq_true rfl) (Nat.le_of_ble_eq_true rfl) (Nat.le_of_ble_eq_true rfl) (Nat.le_of_ble_eq_true rfl) rfl hk
  replace h := zel_l h
  refine z_cvV (pc := 2) (A' := 0) (B' := 0) hG [.int a1] [] zc_X10 DL_0 (tX10_needRow hl0 a1 g hv1) zy_X10_needRow ⟨w989, wp41⟩ w987 dX10_write_2 rfl (Nat.le_of_ble_eq_true rfl) rfl rfl rfl (Nat.le_of_ble_eq_true rfl) rfl ?_
  refine z_aload_n (pc := 5) hG 0 rfl rfl dX10_write_5 ?_
  refine z_getr (pc := 6) hG zc_X10 inX10 DL_0 6 rfl (by decide) rfl w285 dX10_write_6 ?_
  refine z_iload_n (pc := 9) hG 1 rfl rfl dX10_write_9 ?_
  replace h := zbind h
  obtain ⟨v2, hv2, h⟩ := h
  refine z_cvI (pc := 10) (A' := 0) (B' := 0) hG [.int a1] [] zc_X8 DL_31 (tX8_codeOf hl0 a1 g hv2) zy_X8_codeOf ⟨w992, w993⟩ w991 dX10_write_10 rfl (Nat.le_of_ble_eq_true rfl) rfl rfl rfl (Nat.le_of_ble_eq_true rfl) rfl ?_
  refine z_istore_n (pc := 13) (ls' := [(2, .int v2), (0, .ref 0), (1, .int a1)]) hG [0, 1, 2] rfl (by decide) rfl dX10_write_13 ?_
  refine z_iconst (pc := 14) hG kc_0 dX10_write_14 ?_
  refine z_istore_n (pc := 15) (ls' := [(3, .int (0 : Int32)), (2, .int v2), (0, .ref 0), (1, .int a1)]) hG [0, 1, 2, 3] rfl (by decide) rfl dX10_write_15 ?_
  refine z_sub (ls' := [(0, .ref 0), (2, .int v2), (3, .int (0 : Int32))]) [2, 1, 0] rfl ?_
  exact kwX10_write_16 hG hl0 v2 hk ((0 : Int32), g) h
noncomputable def nX10_octet (a1 : Int32) (g : zS) : Option Int32 :=
  if a1 < 0 then (some ((-1 : Int32))) else (if a1 < (g.1 0 11) then (zchk (zin a1 5) (some ((g.1 41 a1.toNatClampNeg)))) else (some ((-1 : Int32))))
set_option maxHeartbeats 60000 in
theorem tX10_octet {l : Launch} (hl0 : l.flags = flags0) (a1 : Int32) (g : zS) {r : Int32} (h : nX10_octet a1 g = some r) : zC l yX10_octet cX10_octet 2 ((Option.some Jvm.ClassFile.FieldType.int)) 0 0 0 [.ref 0, .int a1] zD g (.inl (some (.int r)), zD, g) := by
  refine zC_of hl0 rfl (Nat.le_of_ble_eq_true rfl) (fun x hG hxl hk _ => ?_)
  subst hxl
  show zK x 0 0 [(0, .ref 0), (1, .int a1)] [] zD g 0 0
  unfold nX10_octet at h
  refine z_iload_n (pc := 0) hG 1 rfl rfl dX10_octet_0 ?_
  refine z_if_lt (pc := 1) (tgt := 12) hG dX10_octet_1 rfl (fun hc => ?_) (fun hc => ?_)
  · replace h := zif_t hc h
    refine z_iconst (pc := 12) hG kc_m1 dX10_octet_12 ?_
    refine z_goto (pc := 13) (tgt := 22) hG dX10_octet_13 rfl ?_
    obtain rfl := Option.some.inj h
    exact z_iret (pc := 22) hG rfl rfl hk dX10_octet_22
  · replace h := zif_f hc h
    refine z_iload_n (pc := 4) hG 1 rfl rfl dX10_octet_4 ?_
    refine z_aload_n (pc := 5) hG 0 rfl rfl dX10_octet_5 ?_
    refine z_geti (pc := 6) hG zc_X10 inX10 DL_0 11 rfl (by decide) rfl w290 dX10_octet_6 ?_
    refine z_icmp_lt (pc := 9) (tgt := 16) hG dX10_octet_9 rfl (fun hc => ?_) (fun hc => ?_)
    · replace h := zif_t hc h
      refine z_aload_n (pc := 16) hG 0 rfl rfl dX10_octet_16 ?_
      refine z_getr (pc := 17) hG zc_X10 inX10 DL_0 10 rfl (by decide) rfl w289 dX10_octet_17 ?_
      refine z_iload_n (pc := 20) hG 1 rfl rfl dX10_octet_20 ?_
      replace h := zchk_some h
      obtain ⟨hc, h⟩ := h
      refine z_bald (pc := 21) hG DL_41 (zin_in hc) dX10_octet_21 ?_
      obtain rfl := Option.some.inj h
      exact z_iret (pc := 22) hG rfl rfl hk dX10_octet_22
    · replace h := zif_f hc h
      refine z_iconst (pc := 12) hG kc_m1 dX10_octet_12 ?_
      refine z_goto (pc := 13) (tgt := 22) hG dX10_octet_13 rfl ?_
      obtain rfl := Option.some.inj h
      exact z_iret (pc := 22) hG rfl rfl hk dX10_octet_22
noncomputable def nX10_count (a1 : Int32) (g : zS) : Option Int32 :=
  if a1 = 0 then (some ((g.1 3 0))) else (if a1 = 1 then (some ((g.1 3 7))) else (if a1 = 2 then (some ((g.1 31 1))) else (if a1 = 3 then ((nX4_countRight g).bind fun v1 => some (v1)) else (if a1 = 4 then ((nX4_countMissing g).bind fun v2 => some (v2)) else (if a1 = 5 then (some ((g.1 31 2))) else (if a1 = 6 then (some ((g.1 3 6))) else (if a1 = 7 then ((nX6_allForms g).bind fun v3 => some (v3)) else (if a1 = 8 then (some ((g.1 0 11))) else (if a1 = 9 then ((nX6_allFields g).bind fun v4 => (nX6_weightOf v4 g).bind fun v5 => some (v5)) else (if a1 = 10 then ((nX4_countMendable g).bind fun v6 => some (v6)) else (some ((-1 : Int32)))))))))))))
set_option maxHeartbeats 60000 in
theorem tX10_count {l : Launch} (hl0 : l.flags = flags0) (a1 : Int32) (g : zS) {r : Int32} (h : nX10_count a1 g = some r) : zC l yX10_count cX10_count 2 ((Option.some Jvm.ClassFile.FieldType.int)) 4 0 0 [.ref 0, .int a1] zD g (.inl (some (.int r)), zD, g) := by
  refine zC_of hl0 rfl (Nat.le_of_ble_eq_true rfl) (fun x hG hxl hk _ => ?_)
  subst hxl
  show zK x 4 0 [(0, .ref 0), (1, .int a1)] [] zD g 0 0
  unfold nX10_count at h
  refine z_iload_n (pc := 0) hG 1 rfl rfl dX10_count_0 ?_
  by_cases hc0 : a1 = 0
  · replace h := zif_t hc0 h
    refine z_tabIn (pc := 1) (tgt := 60) hG dX10_count_1 (by rw [hc0]; decide) (by rw [hc0]; decide) (by rw [hc0]; rfl) rfl ?_
    refine z_aload_n (pc := 60) hG 0 rfl rfl dX10_count_60 ?_
    refine z_getr (pc := 61) hG zc_X10 inX10 DL_0 1 rfl (by decide) rfl w280 dX10_count_61 ?_
    refine z_geti (pc := 64) hG zc_X6 inX6 DL_3 0 rfl (by decide) rfl w63 dX10_count_64 ?_
    obtain rfl := Option.some.inj h
    exact z_iret (pc := 67) hG rfl rfl hk dX10_count_67
  replace h := zif_f hc0 h
  by_cases hc1 : a1 = 1
  · replace h := zif_t hc1 h
    refine z_tabIn (pc := 1) (tgt := 68) hG dX10_count_1 (by rw [hc1]; decide) (by rw [hc1]; decide) (by rw [hc1]; rfl) rfl ?_
    refine z_aload_n (pc := 68) hG 0 rfl rfl dX10_count_68 ?_
    refine z_getr (pc := 69) hG zc_X10 inX10 DL_0 1 rfl (by decide) rfl w280 dX10_count_69 ?_
    refine z_geti (pc := 72) hG zc_X6 inX6 DL_3 7 rfl (by decide) rfl w89 dX10_count_72 ?_
    obtain rfl := Option.some.inj h
    exact z_iret (pc := 75) hG rfl rfl hk dX10_count_75
  replace h := zif_f hc1 h
  by_cases hc2 : a1 = 2
  · replace h := zif_t hc2 h
    refine z_tabIn (pc := 1) (tgt := 76) hG dX10_count_1 (by rw [hc2]; decide) (by rw [hc2]; decide) (by rw [hc2]; rfl) rfl ?_
    refine z_aload_n (pc := 76) hG 0 rfl rfl dX10_count_76 ?_
    refine z_getr (pc := 77) hG zc_X10 inX10 DL_0 6 rfl (by decide) rfl w285 dX10_count_77 ?_
    refine z_geti (pc := 80) hG zc_X8 inX8 DL_31 1 rfl (by decide) rfl w219 dX10_count_80 ?_
    obtain rfl := Option.some.inj h
    exact z_iret (pc := 83) hG rfl rfl hk dX10_count_83
  replace h := zif_f hc2 h
  by_cases hc3 : a1 = 3
  · replace h := zif_t hc3 h
    refine z_tabIn (pc := 1) (tgt := 84) hG dX10_count_1 (by rw [hc3]; decide) (by rw [hc3]; decide) (by rw [hc3]; rfl) rfl ?_
    refine z_aload_n (pc := 84) hG 0 rfl rfl dX10_count_84 ?_
    refine z_getr (pc := 85) hG zc_X10 inX10 DL_0 8 rfl (by decide) rfl w287 dX10_count_85 ?_
    replace h := zbind h
    obtain ⟨v1, hv1, h⟩ := h
    refine z_cvI (pc := 88) (A' := 0) (B' := 0) hG [] [] zc_X4 DL_37 (tX4_countRight hl0  g hv1) zy_X4_countRight ⟨w535, w536⟩ w534 dX10_count_88 rfl (Nat.le_of_ble_eq_true rfl) rfl rfl rfl (Nat.le_of_ble_eq_true rfl) rfl ?_
    obtain rfl := Option.some.inj h
    exact z_iret (pc := 91) hG rfl rfl hk dX10_count_91
  replace h := zif_f hc3 h
  by_cases hc4 : a1 = 4
  · replace h := zif_t hc4 h
    refine z_tabIn (pc := 1) (tgt := 92) hG dX10_count_1 (by rw [hc4]; decide) (by rw [hc4]; decide) (by rw [hc4]; rfl) rfl ?_
    refine z_aload_n (pc := 92) hG 0 rfl rfl dX10_count_92 ?_
    refine z_getr (pc := 93) hG zc_X10 inX10 DL_0 8 rfl (by decide) rfl w287 dX10_count_93 ?_
    replace h := zbind h
    obtain ⟨v2, hv2, h⟩ := h
    refine z_cvI (pc := 96) (A' := 0) (B' := 0) hG [] [] zc_X4 DL_37 (tX4_countMissing hl0  g hv2) zy_X4_countMissing ⟨w539, w540⟩ w538 dX10_count_96 rfl (Nat.le_of_ble_eq_true rfl) rfl rfl rfl (Nat.le_of_ble_eq_true rfl) rfl ?_
    obtain rfl := Option.some.inj h
    exact z_iret (pc := 99) hG rfl rfl hk dX10_count_99
  replace h := zif_f hc4 h
  by_cases hc5 : a1 = 5
  · replace h := zif_t hc5 h
    refine z_tabIn (pc := 1) (tgt := 100) hG dX10_count_1 (by rw [hc5]; decide) (by rw [hc5]; decide) (by rw [hc5]; rfl) rfl ?_
    refine z_aload_n (pc := 100) hG 0 rfl rfl dX10_count_100 ?_
    refine z_getr (pc := 101) hG zc_X10 inX10 DL_0 6 rfl (by decide) rfl w285 dX10_count_101 ?_
    refine z_geti (pc := 104) hG zc_X8 inX8 DL_31 2 rfl (by decide) rfl w221 dX10_count_104 ?_
    obtain rfl := Option.some.inj h
    exact z_iret (pc := 107) hG rfl rfl hk dX10_count_107
  replace h := zif_f hc5 h
  by_cases hc6 : a1 = 6
  · replace h := zif_t hc6 h
    refine z_tabIn (pc := 1) (tgt := 108) hG dX10_count_1 (by rw [hc6]; decide) (by rw [hc6]; decide) (by rw [hc6]; rfl) rfl ?_
    refine z_aload_n (pc := 108) hG 0 rfl rfl dX10_count_108 ?_
    refine z_getr (pc := 109) hG zc_X10 inX10 DL_0 1 rfl (by decide) rfl w280 dX10_count_109 ?_
    refine z_geti (pc := 112) hG zc_X6 inX6 DL_3 6 rfl (by decide) rfl w85 dX10_count_112 ?_
    obtain rfl := Option.some.inj h
    exact z_iret (pc := 115) hG rfl rfl hk dX10_count_115
  replace h := zif_f hc6 h
  by_cases hc7 : a1 = 7
  · replace h := zif_t hc7 h
    refine z_tabIn (pc := 1) (tgt := 116) hG dX10_count_1 (by rw [hc7]; decide) (by rw [hc7]; decide) (by rw [hc7]; rfl) rfl ?_
    refine z_aload_n (pc := 116) hG 0 rfl rfl dX10_count_116 ?_
    refine z_getr (pc := 117) hG zc_X10 inX10 DL_0 1 rfl (by decide) rfl w280 dX10_count_117 ?_
    replace h := zbind h
    obtain ⟨v3, hv3, h⟩ := h
    refine z_cvI (pc := 120) (A' := 0) (B' := 0) hG [] [] zc_X6 DL_3 (tX6_allForms hl0  g hv3) zy_X6_allForms ⟨w543, w544⟩ w542 dX10_count_120 rfl (Nat.le_of_ble_eq_true rfl) rfl rfl rfl (Nat.le_of_ble_eq_true rfl) rfl ?_
    obtain rfl := Option.some.inj h
    exact z_iret (pc := 123) hG rfl rfl hk dX10_count_123
  replace h := zif_f hc7 h
  by_cases hc8 : a1 = 8
  · replace h := zif_t hc8 h
    refine z_tabIn (pc := 1) (tgt := 124) hG dX10_count_1 (by rw [hc8]; decide) (by rw [hc8]; decide) (by rw [hc8]; rfl) rfl ?_
    refine z_aload_n (pc := 124) hG 0 rfl rfl dX10_count_124 ?_
    refine z_geti (pc := 125) hG zc_X10 inX10 DL_0 11 rfl (by decide) rfl w290 dX10_count_125 ?_
    obtain rfl := Option.some.inj h
    exact z_iret (pc := 128) hG rfl rfl hk dX10_count_128
  replace h := zif_f hc8 h
  by_cases hc9 : a1 = 9
  · replace h := zif_t hc9 h
    refine z_tabIn (pc := 1) (tgt := 129) hG dX10_count_1 (by rw [hc9]; decide) (by rw [hc9]; decide) (by rw [hc9]; rfl) rfl ?_
    refine z_aload_n (pc := 129) hG 0 rfl rfl dX10_count_129 ?_
    refine z_getr (pc := 130) hG zc_X10 inX10 DL_0 1 rfl (by decide) rfl w280 dX10_count_130 ?_
    refine z_aload_n (pc := 133) hG 0 rfl rfl dX10_count_133 ?_
    refine z_getr (pc := 134) hG zc_X10 inX10 DL_0 1 rfl (by decide) rfl w280 dX10_count_134 ?_
    replace h := zbind h
    obtain ⟨v4, hv4, h⟩ := h
    refine z_cvI (pc := 137) (A' := 0) (B' := 0) hG [] [.ref 3] zc_X6 DL_3 (tX6_allFields hl0  g hv4) zy_X6_allFields ⟨w455, w456⟩ w546 dX10_count_137 rfl (Nat.le_of_ble_eq_true rfl) rfl rfl rfl (Nat.le_of_ble_eq_true rfl) rfl ?_
    replace h := zbind h
    obtain ⟨v5, hv5, h⟩ := h
    refine z_cvI (pc := 140) (A' := 0) (B' := 0) hG [.int v4] [] zc_X6 DL_3 (tX6_weightOf hl0 v4 g hv5) zy_X6_weightOf ⟨w466, w467⟩ w547 dX10_count_140 rfl (Nat.le_of_ble_eq_true rfl) rfl rfl rfl (Nat.le_of_ble_eq_true rfl) rfl ?_
    obtain rfl := Option.some.inj h
    exact z_iret (pc := 143) hG rfl rfl hk dX10_count_143
  replace h := zif_f hc9 h
  by_cases hc10 : a1 = 10
  · replace h := zif_t hc10 h
    refine z_tabIn (pc := 1) (tgt := 144) hG dX10_count_1 (by rw [hc10]; decide) (by rw [hc10]; decide) (by rw [hc10]; rfl) rfl ?_
    refine z_aload_n (pc := 144) hG 0 rfl rfl dX10_count_144 ?_
    refine z_getr (pc := 145) hG zc_X10 inX10 DL_0 8 rfl (by decide) rfl w287 dX10_count_145 ?_
    replace h := zbind h
    obtain ⟨v6, hv6, h⟩ := h
    refine z_cvI (pc := 148) (A' := 0) (B' := 0) hG [] [] zc_X4 DL_37 (tX4_countMendable hl0  g hv6) zy_X4_countMendable ⟨w549, w550⟩ w548 dX10_count_148 rfl (Nat.le_of_ble_eq_true rfl) rfl rfl rfl (Nat.le_of_ble_eq_true rfl) rfl ?_
    obtain rfl := Option.some.inj h
    exact z_iret (pc := 151) hG rfl rfl hk dX10_count_151
  replace h := zif_f hc10 h
  refine z_tabOut (pc := 1) (tgt := 152) hG dX10_count_1 (ztab_out (n := 10) (fun k hk => by
    match k, hk with
    | 0, _ => exact hc0
    | 1, _ => exact hc1
    | 2, _ => exact hc2
    | 3, _ => exact hc3
    | 4, _ => exact hc4
    | 5, _ => exact hc5
    | 6, _ => exact hc6
    | 7, _ => exact hc7
    | 8, _ => exact hc8
    | 9, _ => exact hc9
    | 10, _ => exact hc10
    | k + 11, hk => omega)) rfl ?_
  refine z_iconst (pc := 152) hG kc_m1 dX10_count_152 ?_
  obtain rfl := Option.some.inj h
  exact z_iret (pc := 153) hG rfl rfl hk dX10_count_153
