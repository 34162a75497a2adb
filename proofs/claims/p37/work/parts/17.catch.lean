
/-! ===== the law's catching methods ===== -/
theorem dL_read_0 : decode cL_read 0 = .ok (.aload_n 1, 1) := by decide +kernel
theorem dL_read_1 : decode cL_read 1 = .ok (.iconst 0, 1) := by decide +kernel
theorem dL_read_2 : decode cL_read 2 = .ok (.aload_n 0, 1) := by decide +kernel
theorem dL_read_3 : decode cL_read 3 = .ok (.invokevirtual 7, 3) := by decide +kernel
theorem dL_read_6 : decode cL_read 6 = .ok (.i2l, 1) := by decide +kernel
theorem dL_read_7 : decode cL_read 7 = .ok (.lastore, 1) := by decide +kernel
theorem dL_read_8 : decode cL_read 8 = .ok (.goto 6, 3) := by decide +kernel
theorem dL_read_11 : decode cL_read 11 = .ok (.astore_n 2, 1) := by decide +kernel
theorem dL_read_12 : decode cL_read 12 = .ok (.iconst 1, 1) := by decide +kernel
theorem dL_read_13 : decode cL_read 13 = .ok (.ireturn, 1) := by decide +kernel
theorem dL_read_14 : decode cL_read 14 = .ok (.iconst 0, 1) := by decide +kernel
theorem dL_read_15 : decode cL_read 15 = .ok (.ireturn, 1) := by decide +kernel
theorem dL_field_0 : decode cL_field 0 = .ok (.aload_n 3, 1) := by decide +kernel
theorem dL_field_1 : decode cL_field 1 = .ok (.iconst 0, 1) := by decide +kernel
theorem dL_field_2 : decode cL_field 2 = .ok (.aload_n 0, 1) := by decide +kernel
theorem dL_field_3 : decode cL_field 3 = .ok (.iload_n 1, 1) := by decide +kernel
theorem dL_field_4 : decode cL_field 4 = .ok (.iload_n 2, 1) := by decide +kernel
theorem dL_field_5 : decode cL_field 5 = .ok (.invokevirtual 15, 3) := by decide +kernel
theorem dL_field_8 : decode cL_field 8 = .ok (.i2l, 1) := by decide +kernel
theorem dL_field_9 : decode cL_field 9 = .ok (.lastore, 1) := by decide +kernel
theorem dL_field_10 : decode cL_field 10 = .ok (.goto 11, 3) := by decide +kernel
theorem dL_field_13 : decode cL_field 13 = .ok (.astore 4, 2) := by decide +kernel
theorem dL_field_15 : decode cL_field 15 = .ok (.iconst 1, 1) := by decide +kernel
theorem dL_field_16 : decode cL_field 16 = .ok (.ireturn, 1) := by decide +kernel
theorem dL_field_17 : decode cL_field 17 = .ok (.astore 4, 2) := by decide +kernel
theorem dL_field_19 : decode cL_field 19 = .ok (.iconst 2, 1) := by decide +kernel
theorem dL_field_20 : decode cL_field 20 = .ok (.ireturn, 1) := by decide +kernel
theorem dL_field_21 : decode cL_field 21 = .ok (.iconst 0, 1) := by decide +kernel
theorem dL_field_22 : decode cL_field 22 = .ok (.ireturn, 1) := by decide +kernel
theorem dL_name_0 : decode cL_name 0 = .ok (.aload_n 3, 1) := by decide +kernel
theorem dL_name_1 : decode cL_name 1 = .ok (.iconst 0, 1) := by decide +kernel
theorem dL_name_2 : decode cL_name 2 = .ok (.aload_n 0, 1) := by decide +kernel
theorem dL_name_3 : decode cL_name 3 = .ok (.iload_n 1, 1) := by decide +kernel
theorem dL_name_4 : decode cL_name 4 = .ok (.iload_n 2, 1) := by decide +kernel
theorem dL_name_5 : decode cL_name 5 = .ok (.invokevirtual 23, 3) := by decide +kernel
theorem dL_name_8 : decode cL_name 8 = .ok (.i2l, 1) := by decide +kernel
theorem dL_name_9 : decode cL_name 9 = .ok (.lastore, 1) := by decide +kernel
theorem dL_name_10 : decode cL_name 10 = .ok (.goto 7, 3) := by decide +kernel
theorem dL_name_13 : decode cL_name 13 = .ok (.astore 4, 2) := by decide +kernel
theorem dL_name_15 : decode cL_name 15 = .ok (.iconst 1, 1) := by decide +kernel
theorem dL_name_16 : decode cL_name 16 = .ok (.ireturn, 1) := by decide +kernel
theorem dL_name_17 : decode cL_name 17 = .ok (.iconst 0, 1) := by decide +kernel
theorem dL_name_18 : decode cL_name 18 = .ok (.ireturn, 1) := by decide +kernel
theorem dL_edit_0 : decode cL_edit 0 = .ok (.aload_n 3, 1) := by decide +kernel
theorem dL_edit_1 : decode cL_edit 1 = .ok (.iconst 0, 1) := by decide +kernel
theorem dL_edit_2 : decode cL_edit 2 = .ok (.aload_n 0, 1) := by decide +kernel
theorem dL_edit_3 : decode cL_edit 3 = .ok (.iload_n 1, 1) := by decide +kernel
theorem dL_edit_4 : decode cL_edit 4 = .ok (.iload_n 2, 1) := by decide +kernel
theorem dL_edit_5 : decode cL_edit 5 = .ok (.invokevirtual 26, 3) := by decide +kernel
theorem dL_edit_8 : decode cL_edit 8 = .ok (.i2l, 1) := by decide +kernel
theorem dL_edit_9 : decode cL_edit 9 = .ok (.lastore, 1) := by decide +kernel
theorem dL_edit_10 : decode cL_edit 10 = .ok (.goto 7, 3) := by decide +kernel
theorem dL_edit_13 : decode cL_edit 13 = .ok (.astore 4, 2) := by decide +kernel
theorem dL_edit_15 : decode cL_edit 15 = .ok (.iconst 1, 1) := by decide +kernel
theorem dL_edit_16 : decode cL_edit 16 = .ok (.ireturn, 1) := by decide +kernel
theorem dL_edit_17 : decode cL_edit 17 = .ok (.iconst 0, 1) := by decide +kernel
theorem dL_edit_18 : decode cL_edit 18 = .ok (.ireturn, 1) := by decide +kernel
theorem dL_from_0 : decode cL_from 0 = .ok (.aload_n 2, 1) := by decide +kernel
theorem dL_from_1 : decode cL_from 1 = .ok (.iconst 0, 1) := by decide +kernel
theorem dL_from_2 : decode cL_from 2 = .ok (.aload_n 0, 1) := by decide +kernel
theorem dL_from_3 : decode cL_from 3 = .ok (.iload_n 1, 1) := by decide +kernel
theorem dL_from_4 : decode cL_from 4 = .ok (.invokevirtual 29, 3) := by decide +kernel
theorem dL_from_7 : decode cL_from 7 = .ok (.i2l, 1) := by decide +kernel
theorem dL_from_8 : decode cL_from 8 = .ok (.lastore, 1) := by decide +kernel
theorem dL_from_9 : decode cL_from 9 = .ok (.goto 6, 3) := by decide +kernel
theorem dL_from_12 : decode cL_from 12 = .ok (.astore_n 3, 1) := by decide +kernel
theorem dL_from_13 : decode cL_from 13 = .ok (.iconst 1, 1) := by decide +kernel
theorem dL_from_14 : decode cL_from 14 = .ok (.ireturn, 1) := by decide +kernel
theorem dL_from_15 : decode cL_from 15 = .ok (.iconst 0, 1) := by decide +kernel
theorem dL_from_16 : decode cL_from 16 = .ok (.ireturn, 1) := by decide +kernel
theorem dL_cover_0 : decode cL_cover 0 = .ok (.aload_n 3, 1) := by decide +kernel
theorem dL_cover_1 : decode cL_cover 1 = .ok (.iconst 0, 1) := by decide +kernel
theorem dL_cover_2 : decode cL_cover 2 = .ok (.aload_n 0, 1) := by decide +kernel
theorem dL_cover_3 : decode cL_cover 3 = .ok (.iload_n 1, 1) := by decide +kernel
theorem dL_cover_4 : decode cL_cover 4 = .ok (.iload_n 2, 1) := by decide +kernel
theorem dL_cover_5 : decode cL_cover 5 = .ok (.invokevirtual 33, 3) := by decide +kernel
theorem dL_cover_8 : decode cL_cover 8 = .ok (.i2l, 1) := by decide +kernel
theorem dL_cover_9 : decode cL_cover 9 = .ok (.lastore, 1) := by decide +kernel
theorem dL_cover_10 : decode cL_cover 10 = .ok (.goto 7, 3) := by decide +kernel
theorem dL_cover_13 : decode cL_cover 13 = .ok (.astore 4, 2) := by decide +kernel
theorem dL_cover_15 : decode cL_cover 15 = .ok (.iconst 1, 1) := by decide +kernel
theorem dL_cover_16 : decode cL_cover 16 = .ok (.ireturn, 1) := by decide +kernel
theorem dL_cover_17 : decode cL_cover 17 = .ok (.iconst 0, 1) := by decide +kernel
theorem dL_cover_18 : decode cL_cover 18 = .ok (.ireturn, 1) := by decide +kernel
theorem dL_idle_0 : decode cL_idle 0 = .ok (.aload_n 2, 1) := by decide +kernel
theorem dL_idle_1 : decode cL_idle 1 = .ok (.iconst 0, 1) := by decide +kernel
theorem dL_idle_2 : decode cL_idle 2 = .ok (.aload_n 0, 1) := by decide +kernel
theorem dL_idle_3 : decode cL_idle 3 = .ok (.iload_n 1, 1) := by decide +kernel
theorem dL_idle_4 : decode cL_idle 4 = .ok (.invokevirtual 37, 3) := by decide +kernel
theorem dL_idle_7 : decode cL_idle 7 = .ok (.ifCond .eq 7, 3) := by decide +kernel
theorem dL_idle_10 : decode cL_idle 10 = .ok (.lconst 1, 1) := by decide +kernel
theorem dL_idle_11 : decode cL_idle 11 = .ok (.goto 4, 3) := by decide +kernel
theorem dL_idle_14 : decode cL_idle 14 = .ok (.lconst 0, 1) := by decide +kernel
theorem dL_idle_15 : decode cL_idle 15 = .ok (.lastore, 1) := by decide +kernel
theorem dL_idle_16 : decode cL_idle 16 = .ok (.goto 6, 3) := by decide +kernel
theorem dL_idle_19 : decode cL_idle 19 = .ok (.astore_n 3, 1) := by decide +kernel
theorem dL_idle_20 : decode cL_idle 20 = .ok (.iconst 1, 1) := by decide +kernel
theorem dL_idle_21 : decode cL_idle 21 = .ok (.ireturn, 1) := by decide +kernel
theorem dL_idle_22 : decode cL_idle 22 = .ok (.iconst 0, 1) := by decide +kernel
theorem dL_idle_23 : decode cL_idle 23 = .ok (.ireturn, 1) := by decide +kernel
theorem dL_box_0 : decode cL_box 0 = .ok (.aload_n 3, 1) := by decide +kernel
theorem dL_box_1 : decode cL_box 1 = .ok (.iconst 0, 1) := by decide +kernel
theorem dL_box_2 : decode cL_box 2 = .ok (.aload_n 0, 1) := by decide +kernel
theorem dL_box_3 : decode cL_box 3 = .ok (.iload_n 1, 1) := by decide +kernel
theorem dL_box_4 : decode cL_box 4 = .ok (.iload_n 2, 1) := by decide +kernel
theorem dL_box_5 : decode cL_box 5 = .ok (.invokevirtual 41, 3) := by decide +kernel
theorem dL_box_8 : decode cL_box 8 = .ok (.i2l, 1) := by decide +kernel
theorem dL_box_9 : decode cL_box 9 = .ok (.lastore, 1) := by decide +kernel
theorem dL_box_10 : decode cL_box 10 = .ok (.goto 11, 3) := by decide +kernel
theorem dL_box_13 : decode cL_box 13 = .ok (.astore 4, 2) := by decide +kernel
theorem dL_box_15 : decode cL_box 15 = .ok (.iconst 1, 1) := by decide +kernel
theorem dL_box_16 : decode cL_box 16 = .ok (.ireturn, 1) := by decide +kernel
theorem dL_box_17 : decode cL_box 17 = .ok (.astore 4, 2) := by decide +kernel
theorem dL_box_19 : decode cL_box 19 = .ok (.iconst 2, 1) := by decide +kernel
theorem dL_box_20 : decode cL_box 20 = .ok (.ireturn, 1) := by decide +kernel
theorem dL_box_21 : decode cL_box 21 = .ok (.iconst 0, 1) := by decide +kernel
theorem dL_box_22 : decode cL_box 22 = .ok (.ireturn, 1) := by decide +kernel
theorem dL_tried_0 : decode cL_tried 0 = .ok (.aload_n 2, 1) := by decide +kernel
theorem dL_tried_1 : decode cL_tried 1 = .ok (.iconst 0, 1) := by decide +kernel
theorem dL_tried_2 : decode cL_tried 2 = .ok (.aload_n 0, 1) := by decide +kernel
theorem dL_tried_3 : decode cL_tried 3 = .ok (.iload_n 1, 1) := by decide +kernel
theorem dL_tried_4 : decode cL_tried 4 = .ok (.invokevirtual 44, 3) := by decide +kernel
theorem dL_tried_7 : decode cL_tried 7 = .ok (.i2l, 1) := by decide +kernel
theorem dL_tried_8 : decode cL_tried 8 = .ok (.lastore, 1) := by decide +kernel
theorem dL_tried_9 : decode cL_tried 9 = .ok (.goto 6, 3) := by decide +kernel
theorem dL_tried_12 : decode cL_tried 12 = .ok (.astore_n 3, 1) := by decide +kernel
theorem dL_tried_13 : decode cL_tried 13 = .ok (.iconst 1, 1) := by decide +kernel
theorem dL_tried_14 : decode cL_tried 14 = .ok (.ireturn, 1) := by decide +kernel
theorem dL_tried_15 : decode cL_tried 15 = .ok (.iconst 0, 1) := by decide +kernel
theorem dL_tried_16 : decode cL_tried 16 = .ok (.ireturn, 1) := by decide +kernel
theorem dL_answer_0 : decode cL_answer 0 = .ok (.aload_n 3, 1) := by decide +kernel
theorem dL_answer_1 : decode cL_answer 1 = .ok (.iconst 0, 1) := by decide +kernel
theorem dL_answer_2 : decode cL_answer 2 = .ok (.aload_n 0, 1) := by decide +kernel
theorem dL_answer_3 : decode cL_answer 3 = .ok (.iload_n 1, 1) := by decide +kernel
theorem dL_answer_4 : decode cL_answer 4 = .ok (.iload_n 2, 1) := by decide +kernel
theorem dL_answer_5 : decode cL_answer 5 = .ok (.invokevirtual 47, 3) := by decide +kernel
theorem dL_answer_8 : decode cL_answer 8 = .ok (.i2l, 1) := by decide +kernel
theorem dL_answer_9 : decode cL_answer 9 = .ok (.lastore, 1) := by decide +kernel
theorem dL_answer_10 : decode cL_answer 10 = .ok (.goto 7, 3) := by decide +kernel
theorem dL_answer_13 : decode cL_answer 13 = .ok (.astore 4, 2) := by decide +kernel
theorem dL_answer_15 : decode cL_answer 15 = .ok (.iconst 1, 1) := by decide +kernel
theorem dL_answer_16 : decode cL_answer 16 = .ok (.ireturn, 1) := by decide +kernel
theorem dL_answer_17 : decode cL_answer 17 = .ok (.iconst 0, 1) := by decide +kernel
theorem dL_answer_18 : decode cL_answer 18 = .ok (.ireturn, 1) := by decide +kernel
theorem dL_tell_0 : decode cL_tell 0 = .ok (.aload 4, 2) := by decide +kernel
theorem dL_tell_2 : decode cL_tell 2 = .ok (.iconst 0, 1) := by decide +kernel
theorem dL_tell_3 : decode cL_tell 3 = .ok (.aload_n 0, 1) := by decide +kernel
theorem dL_tell_4 : decode cL_tell 4 = .ok (.iload_n 1, 1) := by decide +kernel
theorem dL_tell_5 : decode cL_tell 5 = .ok (.iload_n 2, 1) := by decide +kernel
theorem dL_tell_6 : decode cL_tell 6 = .ok (.iload_n 3, 1) := by decide +kernel
theorem dL_tell_7 : decode cL_tell 7 = .ok (.invokevirtual 50, 3) := by decide +kernel
theorem dL_tell_10 : decode cL_tell 10 = .ok (.i2l, 1) := by decide +kernel
theorem dL_tell_11 : decode cL_tell 11 = .ok (.lastore, 1) := by decide +kernel
theorem dL_tell_12 : decode cL_tell 12 = .ok (.goto 11, 3) := by decide +kernel
theorem dL_tell_15 : decode cL_tell 15 = .ok (.astore 5, 2) := by decide +kernel
theorem dL_tell_17 : decode cL_tell 17 = .ok (.iconst 1, 1) := by decide +kernel
theorem dL_tell_18 : decode cL_tell 18 = .ok (.ireturn, 1) := by decide +kernel
theorem dL_tell_19 : decode cL_tell 19 = .ok (.astore 5, 2) := by decide +kernel
theorem dL_tell_21 : decode cL_tell 21 = .ok (.iconst 2, 1) := by decide +kernel
theorem dL_tell_22 : decode cL_tell 22 = .ok (.ireturn, 1) := by decide +kernel
theorem dL_tell_23 : decode cL_tell 23 = .ok (.iconst 0, 1) := by decide +kernel
theorem dL_tell_24 : decode cL_tell 24 = .ok (.ireturn, 1) := by decide +kernel
theorem dL_copy_0 : decode cL_copy 0 = .ok (.aload_n 2, 1) := by decide +kernel
theorem dL_copy_1 : decode cL_copy 1 = .ok (.iconst 0, 1) := by decide +kernel
theorem dL_copy_2 : decode cL_copy 2 = .ok (.aload_n 0, 1) := by decide +kernel
theorem dL_copy_3 : decode cL_copy 3 = .ok (.iload_n 1, 1) := by decide +kernel
theorem dL_copy_4 : decode cL_copy 4 = .ok (.invokevirtual 54, 3) := by decide +kernel
theorem dL_copy_7 : decode cL_copy 7 = .ok (.i2l, 1) := by decide +kernel
theorem dL_copy_8 : decode cL_copy 8 = .ok (.lastore, 1) := by decide +kernel
theorem dL_copy_9 : decode cL_copy 9 = .ok (.goto 9, 3) := by decide +kernel
theorem dL_copy_12 : decode cL_copy 12 = .ok (.astore_n 3, 1) := by decide +kernel
theorem dL_copy_13 : decode cL_copy 13 = .ok (.iconst 1, 1) := by decide +kernel
theorem dL_copy_14 : decode cL_copy 14 = .ok (.ireturn, 1) := by decide +kernel
theorem dL_copy_15 : decode cL_copy 15 = .ok (.astore_n 3, 1) := by decide +kernel
theorem dL_copy_16 : decode cL_copy 16 = .ok (.iconst 2, 1) := by decide +kernel
theorem dL_copy_17 : decode cL_copy 17 = .ok (.ireturn, 1) := by decide +kernel
theorem dL_copy_18 : decode cL_copy 18 = .ok (.iconst 0, 1) := by decide +kernel
theorem dL_copy_19 : decode cL_copy 19 = .ok (.ireturn, 1) := by decide +kernel
theorem dL_drop_0 : decode cL_drop 0 = .ok (.aload_n 1, 1) := by decide +kernel
theorem dL_drop_1 : decode cL_drop 1 = .ok (.iconst 0, 1) := by decide +kernel
theorem dL_drop_2 : decode cL_drop 2 = .ok (.aload_n 0, 1) := by decide +kernel
theorem dL_drop_3 : decode cL_drop 3 = .ok (.invokevirtual 59, 3) := by decide +kernel
theorem dL_drop_6 : decode cL_drop 6 = .ok (.i2l, 1) := by decide +kernel
theorem dL_drop_7 : decode cL_drop 7 = .ok (.lastore, 1) := by decide +kernel
theorem dL_drop_8 : decode cL_drop 8 = .ok (.goto 6, 3) := by decide +kernel
theorem dL_drop_11 : decode cL_drop 11 = .ok (.astore_n 2, 1) := by decide +kernel
theorem dL_drop_12 : decode cL_drop 12 = .ok (.iconst 1, 1) := by decide +kernel
theorem dL_drop_13 : decode cL_drop 13 = .ok (.ireturn, 1) := by decide +kernel
theorem dL_drop_14 : decode cL_drop 14 = .ok (.iconst 0, 1) := by decide +kernel
theorem dL_drop_15 : decode cL_drop 15 = .ok (.ireturn, 1) := by decide +kernel
theorem dL_fails_0 : decode cL_fails 0 = .ok (.aload_n 2, 1) := by decide +kernel
theorem dL_fails_1 : decode cL_fails 1 = .ok (.iconst 0, 1) := by decide +kernel
theorem dL_fails_2 : decode cL_fails 2 = .ok (.aload_n 0, 1) := by decide +kernel
theorem dL_fails_3 : decode cL_fails 3 = .ok (.iload_n 1, 1) := by decide +kernel
theorem dL_fails_4 : decode cL_fails 4 = .ok (.invokevirtual 62, 3) := by decide +kernel
theorem dL_fails_7 : decode cL_fails 7 = .ok (.i2l, 1) := by decide +kernel
theorem dL_fails_8 : decode cL_fails 8 = .ok (.lastore, 1) := by decide +kernel
theorem dL_fails_9 : decode cL_fails 9 = .ok (.goto 6, 3) := by decide +kernel
theorem dL_fails_12 : decode cL_fails 12 = .ok (.astore_n 3, 1) := by decide +kernel
theorem dL_fails_13 : decode cL_fails 13 = .ok (.iconst 1, 1) := by decide +kernel
theorem dL_fails_14 : decode cL_fails 14 = .ok (.ireturn, 1) := by decide +kernel
theorem dL_fails_15 : decode cL_fails 15 = .ok (.iconst 0, 1) := by decide +kernel
theorem dL_fails_16 : decode cL_fails 16 = .ok (.ireturn, 1) := by decide +kernel
theorem dL_within_0 : decode cL_within 0 = .ok (.aload_n 3, 1) := by decide +kernel
theorem dL_within_1 : decode cL_within 1 = .ok (.iconst 0, 1) := by decide +kernel
theorem dL_within_2 : decode cL_within 2 = .ok (.aload_n 0, 1) := by decide +kernel
theorem dL_within_3 : decode cL_within 3 = .ok (.iload_n 1, 1) := by decide +kernel
theorem dL_within_4 : decode cL_within 4 = .ok (.iload_n 2, 1) := by decide +kernel
theorem dL_within_5 : decode cL_within 5 = .ok (.invokevirtual 65, 3) := by decide +kernel
theorem dL_within_8 : decode cL_within 8 = .ok (.i2l, 1) := by decide +kernel
theorem dL_within_9 : decode cL_within 9 = .ok (.lastore, 1) := by decide +kernel
theorem dL_within_10 : decode cL_within 10 = .ok (.goto 11, 3) := by decide +kernel
theorem dL_within_13 : decode cL_within 13 = .ok (.astore 4, 2) := by decide +kernel
theorem dL_within_15 : decode cL_within 15 = .ok (.iconst 1, 1) := by decide +kernel
theorem dL_within_16 : decode cL_within 16 = .ok (.ireturn, 1) := by decide +kernel
theorem dL_within_17 : decode cL_within 17 = .ok (.astore 4, 2) := by decide +kernel
theorem dL_within_19 : decode cL_within 19 = .ok (.iconst 2, 1) := by decide +kernel
theorem dL_within_20 : decode cL_within 20 = .ok (.ireturn, 1) := by decide +kernel
theorem dL_within_21 : decode cL_within 21 = .ok (.iconst 0, 1) := by decide +kernel
theorem dL_within_22 : decode cL_within 22 = .ok (.ireturn, 1) := by decide +kernel
theorem dL_may_0 : decode cL_may 0 = .ok (.aload_n 3, 1) := by decide +kernel
theorem dL_may_1 : decode cL_may 1 = .ok (.iconst 0, 1) := by decide +kernel
theorem dL_may_2 : decode cL_may 2 = .ok (.aload_n 0, 1) := by decide +kernel
theorem dL_may_3 : decode cL_may 3 = .ok (.iload_n 1, 1) := by decide +kernel
theorem dL_may_4 : decode cL_may 4 = .ok (.iload_n 2, 1) := by decide +kernel
theorem dL_may_5 : decode cL_may 5 = .ok (.invokevirtual 68, 3) := by decide +kernel
theorem dL_may_8 : decode cL_may 8 = .ok (.i2l, 1) := by decide +kernel
theorem dL_may_9 : decode cL_may 9 = .ok (.lastore, 1) := by decide +kernel
theorem dL_may_10 : decode cL_may 10 = .ok (.goto 11, 3) := by decide +kernel
theorem dL_may_13 : decode cL_may 13 = .ok (.astore 4, 2) := by decide +kernel
theorem dL_may_15 : decode cL_may 15 = .ok (.iconst 1, 1) := by decide +kernel
theorem dL_may_16 : decode cL_may 16 = .ok (.ireturn, 1) := by decide +kernel
theorem dL_may_17 : decode cL_may 17 = .ok (.astore 4, 2) := by decide +kernel
theorem dL_may_19 : decode cL_may 19 = .ok (.iconst 2, 1) := by decide +kernel
theorem dL_may_20 : decode cL_may 20 = .ok (.ireturn, 1) := by decide +kernel
theorem dL_may_21 : decode cL_may 21 = .ok (.iconst 0, 1) := by decide +kernel
theorem dL_may_22 : decode cL_may 22 = .ok (.ireturn, 1) := by decide +kernel
theorem dL_likely_0 : decode cL_likely 0 = .ok (.aload_n 3, 1) := by decide +kernel
theorem dL_likely_1 : decode cL_likely 1 = .ok (.iconst 0, 1) := by decide +kernel
theorem dL_likely_2 : decode cL_likely 2 = .ok (.aload_n 0, 1) := by decide +kernel
theorem dL_likely_3 : decode cL_likely 3 = .ok (.iload_n 1, 1) := by decide +kernel
theorem dL_likely_4 : decode cL_likely 4 = .ok (.iload_n 2, 1) := by decide +kernel
theorem dL_likely_5 : decode cL_likely 5 = .ok (.invokevirtual 71, 3) := by decide +kernel
theorem dL_likely_8 : decode cL_likely 8 = .ok (.i2l, 1) := by decide +kernel
theorem dL_likely_9 : decode cL_likely 9 = .ok (.lastore, 1) := by decide +kernel
theorem dL_likely_10 : decode cL_likely 10 = .ok (.goto 11, 3) := by decide +kernel
theorem dL_likely_13 : decode cL_likely 13 = .ok (.astore 4, 2) := by decide +kernel
theorem dL_likely_15 : decode cL_likely 15 = .ok (.iconst 1, 1) := by decide +kernel
theorem dL_likely_16 : decode cL_likely 16 = .ok (.ireturn, 1) := by decide +kernel
theorem dL_likely_17 : decode cL_likely 17 = .ok (.astore 4, 2) := by decide +kernel
theorem dL_likely_19 : decode cL_likely 19 = .ok (.iconst 2, 1) := by decide +kernel
theorem dL_likely_20 : decode cL_likely 20 = .ok (.ireturn, 1) := by decide +kernel
theorem dL_likely_21 : decode cL_likely 21 = .ok (.iconst 0, 1) := by decide +kernel
theorem dL_likely_22 : decode cL_likely 22 = .ok (.ireturn, 1) := by decide +kernel
theorem dL_blame_0 : decode cL_blame 0 = .ok (.aload_n 2, 1) := by decide +kernel
theorem dL_blame_1 : decode cL_blame 1 = .ok (.iconst 0, 1) := by decide +kernel
theorem dL_blame_2 : decode cL_blame 2 = .ok (.aload_n 0, 1) := by decide +kernel
theorem dL_blame_3 : decode cL_blame 3 = .ok (.iload_n 1, 1) := by decide +kernel
theorem dL_blame_4 : decode cL_blame 4 = .ok (.invokevirtual 74, 3) := by decide +kernel
theorem dL_blame_7 : decode cL_blame 7 = .ok (.i2l, 1) := by decide +kernel
theorem dL_blame_8 : decode cL_blame 8 = .ok (.lastore, 1) := by decide +kernel
theorem dL_blame_9 : decode cL_blame 9 = .ok (.goto 9, 3) := by decide +kernel
theorem dL_blame_12 : decode cL_blame 12 = .ok (.astore_n 3, 1) := by decide +kernel
theorem dL_blame_13 : decode cL_blame 13 = .ok (.iconst 1, 1) := by decide +kernel
theorem dL_blame_14 : decode cL_blame 14 = .ok (.ireturn, 1) := by decide +kernel
theorem dL_blame_15 : decode cL_blame 15 = .ok (.astore_n 3, 1) := by decide +kernel
theorem dL_blame_16 : decode cL_blame 16 = .ok (.iconst 2, 1) := by decide +kernel
theorem dL_blame_17 : decode cL_blame 17 = .ok (.ireturn, 1) := by decide +kernel
theorem dL_blame_18 : decode cL_blame 18 = .ok (.iconst 0, 1) := by decide +kernel
theorem dL_blame_19 : decode cL_blame 19 = .ok (.ireturn, 1) := by decide +kernel
theorem dL_mends_0 : decode cL_mends 0 = .ok (.aload_n 3, 1) := by decide +kernel
theorem dL_mends_1 : decode cL_mends 1 = .ok (.iconst 0, 1) := by decide +kernel
theorem dL_mends_2 : decode cL_mends 2 = .ok (.aload_n 0, 1) := by decide +kernel
theorem dL_mends_3 : decode cL_mends 3 = .ok (.iload_n 1, 1) := by decide +kernel
theorem dL_mends_4 : decode cL_mends 4 = .ok (.iload_n 2, 1) := by decide +kernel
theorem dL_mends_5 : decode cL_mends 5 = .ok (.invokevirtual 77, 3) := by decide +kernel
theorem dL_mends_8 : decode cL_mends 8 = .ok (.ifCond .eq 7, 3) := by decide +kernel
theorem dL_mends_11 : decode cL_mends 11 = .ok (.lconst 1, 1) := by decide +kernel
theorem dL_mends_12 : decode cL_mends 12 = .ok (.goto 4, 3) := by decide +kernel
theorem dL_mends_15 : decode cL_mends 15 = .ok (.lconst 0, 1) := by decide +kernel
theorem dL_mends_16 : decode cL_mends 16 = .ok (.lastore, 1) := by decide +kernel
theorem dL_mends_17 : decode cL_mends 17 = .ok (.goto 11, 3) := by decide +kernel
theorem dL_mends_20 : decode cL_mends 20 = .ok (.astore 4, 2) := by decide +kernel
theorem dL_mends_22 : decode cL_mends 22 = .ok (.iconst 1, 1) := by decide +kernel
theorem dL_mends_23 : decode cL_mends 23 = .ok (.ireturn, 1) := by decide +kernel
theorem dL_mends_24 : decode cL_mends 24 = .ok (.astore 4, 2) := by decide +kernel
theorem dL_mends_26 : decode cL_mends 26 = .ok (.iconst 2, 1) := by decide +kernel
theorem dL_mends_27 : decode cL_mends 27 = .ok (.ireturn, 1) := by decide +kernel
theorem dL_mends_28 : decode cL_mends 28 = .ok (.iconst 0, 1) := by decide +kernel
theorem dL_mends_29 : decode cL_mends 29 = .ok (.ireturn, 1) := by decide +kernel
theorem dL_ways_0 : decode cL_ways 0 = .ok (.aload_n 3, 1) := by decide +kernel
theorem dL_ways_1 : decode cL_ways 1 = .ok (.iconst 0, 1) := by decide +kernel
theorem dL_ways_2 : decode cL_ways 2 = .ok (.aload_n 0, 1) := by decide +kernel
theorem dL_ways_3 : decode cL_ways 3 = .ok (.iload_n 1, 1) := by decide +kernel
theorem dL_ways_4 : decode cL_ways 4 = .ok (.iload_n 2, 1) := by decide +kernel
theorem dL_ways_5 : decode cL_ways 5 = .ok (.invokevirtual 81, 3) := by decide +kernel
theorem dL_ways_8 : decode cL_ways 8 = .ok (.i2l, 1) := by decide +kernel
theorem dL_ways_9 : decode cL_ways 9 = .ok (.lastore, 1) := by decide +kernel
theorem dL_ways_10 : decode cL_ways 10 = .ok (.goto 11, 3) := by decide +kernel
theorem dL_ways_13 : decode cL_ways 13 = .ok (.astore 4, 2) := by decide +kernel
theorem dL_ways_15 : decode cL_ways 15 = .ok (.iconst 1, 1) := by decide +kernel
theorem dL_ways_16 : decode cL_ways 16 = .ok (.ireturn, 1) := by decide +kernel
theorem dL_ways_17 : decode cL_ways 17 = .ok (.astore 4, 2) := by decide +kernel
theorem dL_ways_19 : decode cL_ways 19 = .ok (.iconst 2, 1) := by decide +kernel
theorem dL_ways_20 : decode cL_ways 20 = .ok (.ireturn, 1) := by decide +kernel
theorem dL_ways_21 : decode cL_ways 21 = .ok (.iconst 0, 1) := by decide +kernel
theorem dL_ways_22 : decode cL_ways 22 = .ok (.ireturn, 1) := by decide +kernel
theorem dL_least_0 : decode cL_least 0 = .ok (.aload_n 3, 1) := by decide +kernel
theorem dL_least_1 : decode cL_least 1 = .ok (.iconst 0, 1) := by decide +kernel
theorem dL_least_2 : decode cL_least 2 = .ok (.aload_n 0, 1) := by decide +kernel
theorem dL_least_3 : decode cL_least 3 = .ok (.iload_n 1, 1) := by decide +kernel
theorem dL_least_4 : decode cL_least 4 = .ok (.iload_n 2, 1) := by decide +kernel
theorem dL_least_5 : decode cL_least 5 = .ok (.invokevirtual 84, 3) := by decide +kernel
theorem dL_least_8 : decode cL_least 8 = .ok (.i2l, 1) := by decide +kernel
theorem dL_least_9 : decode cL_least 9 = .ok (.lastore, 1) := by decide +kernel
theorem dL_least_10 : decode cL_least 10 = .ok (.goto 11, 3) := by decide +kernel
theorem dL_least_13 : decode cL_least 13 = .ok (.astore 4, 2) := by decide +kernel
theorem dL_least_15 : decode cL_least 15 = .ok (.iconst 1, 1) := by decide +kernel
theorem dL_least_16 : decode cL_least 16 = .ok (.ireturn, 1) := by decide +kernel
theorem dL_least_17 : decode cL_least 17 = .ok (.astore 4, 2) := by decide +kernel
theorem dL_least_19 : decode cL_least 19 = .ok (.iconst 2, 1) := by decide +kernel
theorem dL_least_20 : decode cL_least 20 = .ok (.ireturn, 1) := by decide +kernel
theorem dL_least_21 : decode cL_least 21 = .ok (.iconst 0, 1) := by decide +kernel
theorem dL_least_22 : decode cL_least 22 = .ok (.ireturn, 1) := by decide +kernel
theorem dL_leastOf_0 : decode cL_leastOf 0 = .ok (.aload_n 3, 1) := by decide +kernel
theorem dL_leastOf_1 : decode cL_leastOf 1 = .ok (.iconst 0, 1) := by decide +kernel
theorem dL_leastOf_2 : decode cL_leastOf 2 = .ok (.aload_n 0, 1) := by decide +kernel
theorem dL_leastOf_3 : decode cL_leastOf 3 = .ok (.iload_n 1, 1) := by decide +kernel
theorem dL_leastOf_4 : decode cL_leastOf 4 = .ok (.iload_n 2, 1) := by decide +kernel
theorem dL_leastOf_5 : decode cL_leastOf 5 = .ok (.invokevirtual 87, 3) := by decide +kernel
theorem dL_leastOf_8 : decode cL_leastOf 8 = .ok (.i2l, 1) := by decide +kernel
theorem dL_leastOf_9 : decode cL_leastOf 9 = .ok (.lastore, 1) := by decide +kernel
theorem dL_leastOf_10 : decode cL_leastOf 10 = .ok (.goto 7, 3) := by decide +kernel
theorem dL_leastOf_13 : decode cL_leastOf 13 = .ok (.astore 4, 2) := by decide +kernel
theorem dL_leastOf_15 : decode cL_leastOf 15 = .ok (.iconst 1, 1) := by decide +kernel
theorem dL_leastOf_16 : decode cL_leastOf 16 = .ok (.ireturn, 1) := by decide +kernel
theorem dL_leastOf_17 : decode cL_leastOf 17 = .ok (.iconst 0, 1) := by decide +kernel
theorem dL_leastOf_18 : decode cL_leastOf 18 = .ok (.ireturn, 1) := by decide +kernel
theorem dL_values_0 : decode cL_values 0 = .ok (.aload 4, 2) := by decide +kernel
theorem dL_values_2 : decode cL_values 2 = .ok (.iconst 0, 1) := by decide +kernel
theorem dL_values_3 : decode cL_values 3 = .ok (.aload_n 0, 1) := by decide +kernel
theorem dL_values_4 : decode cL_values 4 = .ok (.iload_n 1, 1) := by decide +kernel
theorem dL_values_5 : decode cL_values 5 = .ok (.iload_n 2, 1) := by decide +kernel
theorem dL_values_6 : decode cL_values 6 = .ok (.iload_n 3, 1) := by decide +kernel
theorem dL_values_7 : decode cL_values 7 = .ok (.invokevirtual 90, 3) := by decide +kernel
theorem dL_values_10 : decode cL_values 10 = .ok (.i2l, 1) := by decide +kernel
theorem dL_values_11 : decode cL_values 11 = .ok (.lastore, 1) := by decide +kernel
theorem dL_values_12 : decode cL_values 12 = .ok (.goto 11, 3) := by decide +kernel
theorem dL_values_15 : decode cL_values 15 = .ok (.astore 5, 2) := by decide +kernel
theorem dL_values_17 : decode cL_values 17 = .ok (.iconst 1, 1) := by decide +kernel
theorem dL_values_18 : decode cL_values 18 = .ok (.ireturn, 1) := by decide +kernel
theorem dL_values_19 : decode cL_values 19 = .ok (.astore 5, 2) := by decide +kernel
theorem dL_values_21 : decode cL_values 21 = .ok (.iconst 2, 1) := by decide +kernel
theorem dL_values_22 : decode cL_values 22 = .ok (.ireturn, 1) := by decide +kernel
theorem dL_values_23 : decode cL_values 23 = .ok (.iconst 0, 1) := by decide +kernel
theorem dL_values_24 : decode cL_values 24 = .ok (.ireturn, 1) := by decide +kernel
theorem dL_forced_0 : decode cL_forced 0 = .ok (.aload_n 2, 1) := by decide +kernel
theorem dL_forced_1 : decode cL_forced 1 = .ok (.iconst 0, 1) := by decide +kernel
theorem dL_forced_2 : decode cL_forced 2 = .ok (.aload_n 0, 1) := by decide +kernel
theorem dL_forced_3 : decode cL_forced 3 = .ok (.iload_n 1, 1) := by decide +kernel
theorem dL_forced_4 : decode cL_forced 4 = .ok (.invokevirtual 93, 3) := by decide +kernel
theorem dL_forced_7 : decode cL_forced 7 = .ok (.i2l, 1) := by decide +kernel
theorem dL_forced_8 : decode cL_forced 8 = .ok (.lastore, 1) := by decide +kernel
theorem dL_forced_9 : decode cL_forced 9 = .ok (.goto 6, 3) := by decide +kernel
theorem dL_forced_12 : decode cL_forced 12 = .ok (.astore_n 3, 1) := by decide +kernel
theorem dL_forced_13 : decode cL_forced 13 = .ok (.iconst 1, 1) := by decide +kernel
theorem dL_forced_14 : decode cL_forced 14 = .ok (.ireturn, 1) := by decide +kernel
theorem dL_forced_15 : decode cL_forced 15 = .ok (.iconst 0, 1) := by decide +kernel
theorem dL_forced_16 : decode cL_forced 16 = .ok (.ireturn, 1) := by decide +kernel
theorem dL_donor_0 : decode cL_donor 0 = .ok (.aload 4, 2) := by decide +kernel
theorem dL_donor_2 : decode cL_donor 2 = .ok (.iconst 0, 1) := by decide +kernel
theorem dL_donor_3 : decode cL_donor 3 = .ok (.aload_n 0, 1) := by decide +kernel
theorem dL_donor_4 : decode cL_donor 4 = .ok (.iload_n 1, 1) := by decide +kernel
theorem dL_donor_5 : decode cL_donor 5 = .ok (.iload_n 2, 1) := by decide +kernel
theorem dL_donor_6 : decode cL_donor 6 = .ok (.iload_n 3, 1) := by decide +kernel
theorem dL_donor_7 : decode cL_donor 7 = .ok (.invokevirtual 96, 3) := by decide +kernel
theorem dL_donor_10 : decode cL_donor 10 = .ok (.i2l, 1) := by decide +kernel
theorem dL_donor_11 : decode cL_donor 11 = .ok (.lastore, 1) := by decide +kernel
theorem dL_donor_12 : decode cL_donor 12 = .ok (.goto 7, 3) := by decide +kernel
theorem dL_donor_15 : decode cL_donor 15 = .ok (.astore 5, 2) := by decide +kernel
theorem dL_donor_17 : decode cL_donor 17 = .ok (.iconst 1, 1) := by decide +kernel
theorem dL_donor_18 : decode cL_donor 18 = .ok (.ireturn, 1) := by decide +kernel
theorem dL_donor_19 : decode cL_donor 19 = .ok (.iconst 0, 1) := by decide +kernel
theorem dL_donor_20 : decode cL_donor 20 = .ok (.ireturn, 1) := by decide +kernel
theorem dL_would_0 : decode cL_would 0 = .ok (.aload_n 3, 1) := by decide +kernel
theorem dL_would_1 : decode cL_would 1 = .ok (.iconst 0, 1) := by decide +kernel
theorem dL_would_2 : decode cL_would 2 = .ok (.aload_n 0, 1) := by decide +kernel
theorem dL_would_3 : decode cL_would 3 = .ok (.iload_n 1, 1) := by decide +kernel
theorem dL_would_4 : decode cL_would 4 = .ok (.iload_n 2, 1) := by decide +kernel
theorem dL_would_5 : decode cL_would 5 = .ok (.invokevirtual 100, 3) := by decide +kernel
theorem dL_would_8 : decode cL_would 8 = .ok (.i2l, 1) := by decide +kernel
theorem dL_would_9 : decode cL_would 9 = .ok (.lastore, 1) := by decide +kernel
theorem dL_would_10 : decode cL_would 10 = .ok (.goto 11, 3) := by decide +kernel
theorem dL_would_13 : decode cL_would 13 = .ok (.astore 4, 2) := by decide +kernel
theorem dL_would_15 : decode cL_would 15 = .ok (.iconst 1, 1) := by decide +kernel
theorem dL_would_16 : decode cL_would 16 = .ok (.ireturn, 1) := by decide +kernel
theorem dL_would_17 : decode cL_would 17 = .ok (.astore 4, 2) := by decide +kernel
theorem dL_would_19 : decode cL_would 19 = .ok (.iconst 2, 1) := by decide +kernel
theorem dL_would_20 : decode cL_would 20 = .ok (.ireturn, 1) := by decide +kernel
theorem dL_would_21 : decode cL_would 21 = .ok (.iconst 0, 1) := by decide +kernel
theorem dL_would_22 : decode cL_would 22 = .ok (.ireturn, 1) := by decide +kernel
theorem dL_mend_0 : decode cL_mend 0 = .ok (.aload_n 3, 1) := by decide +kernel
theorem dL_mend_1 : decode cL_mend 1 = .ok (.iconst 0, 1) := by decide +kernel
theorem dL_mend_2 : decode cL_mend 2 = .ok (.aload_n 0, 1) := by decide +kernel
theorem dL_mend_3 : decode cL_mend 3 = .ok (.iload_n 1, 1) := by decide +kernel
theorem dL_mend_4 : decode cL_mend 4 = .ok (.iload_n 2, 1) := by decide +kernel
theorem dL_mend_5 : decode cL_mend 5 = .ok (.invokevirtual 103, 3) := by decide +kernel
theorem dL_mend_8 : decode cL_mend 8 = .ok (.i2l, 1) := by decide +kernel
theorem dL_mend_9 : decode cL_mend 9 = .ok (.lastore, 1) := by decide +kernel
theorem dL_mend_10 : decode cL_mend 10 = .ok (.goto 15, 3) := by decide +kernel
theorem dL_mend_13 : decode cL_mend 13 = .ok (.astore 4, 2) := by decide +kernel
theorem dL_mend_15 : decode cL_mend 15 = .ok (.iconst 1, 1) := by decide +kernel
theorem dL_mend_16 : decode cL_mend 16 = .ok (.ireturn, 1) := by decide +kernel
theorem dL_mend_17 : decode cL_mend 17 = .ok (.astore 4, 2) := by decide +kernel
theorem dL_mend_19 : decode cL_mend 19 = .ok (.iconst 2, 1) := by decide +kernel
theorem dL_mend_20 : decode cL_mend 20 = .ok (.ireturn, 1) := by decide +kernel
theorem dL_mend_21 : decode cL_mend 21 = .ok (.astore 4, 2) := by decide +kernel
theorem dL_mend_23 : decode cL_mend 23 = .ok (.iconst 3, 1) := by decide +kernel
theorem dL_mend_24 : decode cL_mend 24 = .ok (.ireturn, 1) := by decide +kernel
theorem dL_mend_25 : decode cL_mend 25 = .ok (.iconst 0, 1) := by decide +kernel
theorem dL_mend_26 : decode cL_mend 26 = .ok (.ireturn, 1) := by decide +kernel
theorem dL_mendAll_0 : decode cL_mendAll 0 = .ok (.aload_n 2, 1) := by decide +kernel
theorem dL_mendAll_1 : decode cL_mendAll 1 = .ok (.iconst 0, 1) := by decide +kernel
theorem dL_mendAll_2 : decode cL_mendAll 2 = .ok (.aload_n 0, 1) := by decide +kernel
theorem dL_mendAll_3 : decode cL_mendAll 3 = .ok (.iload_n 1, 1) := by decide +kernel
theorem dL_mendAll_4 : decode cL_mendAll 4 = .ok (.invokevirtual 106, 3) := by decide +kernel
theorem dL_mendAll_7 : decode cL_mendAll 7 = .ok (.i2l, 1) := by decide +kernel
theorem dL_mendAll_8 : decode cL_mendAll 8 = .ok (.lastore, 1) := by decide +kernel
theorem dL_mendAll_9 : decode cL_mendAll 9 = .ok (.goto 6, 3) := by decide +kernel
theorem dL_mendAll_12 : decode cL_mendAll 12 = .ok (.astore_n 3, 1) := by decide +kernel
theorem dL_mendAll_13 : decode cL_mendAll 13 = .ok (.iconst 1, 1) := by decide +kernel
theorem dL_mendAll_14 : decode cL_mendAll 14 = .ok (.ireturn, 1) := by decide +kernel
theorem dL_mendAll_15 : decode cL_mendAll 15 = .ok (.iconst 0, 1) := by decide +kernel
theorem dL_mendAll_16 : decode cL_mendAll 16 = .ok (.ireturn, 1) := by decide +kernel
theorem dL_trial_0 : decode cL_trial 0 = .ok (.aload_n 3, 1) := by decide +kernel
theorem dL_trial_1 : decode cL_trial 1 = .ok (.iconst 0, 1) := by decide +kernel
theorem dL_trial_2 : decode cL_trial 2 = .ok (.aload_n 0, 1) := by decide +kernel
theorem dL_trial_3 : decode cL_trial 3 = .ok (.iload_n 1, 1) := by decide +kernel
theorem dL_trial_4 : decode cL_trial 4 = .ok (.iload_n 2, 1) := by decide +kernel
theorem dL_trial_5 : decode cL_trial 5 = .ok (.invokevirtual 109, 3) := by decide +kernel
theorem dL_trial_8 : decode cL_trial 8 = .ok (.i2l, 1) := by decide +kernel
theorem dL_trial_9 : decode cL_trial 9 = .ok (.lastore, 1) := by decide +kernel
theorem dL_trial_10 : decode cL_trial 10 = .ok (.goto 11, 3) := by decide +kernel
theorem dL_trial_13 : decode cL_trial 13 = .ok (.astore 4, 2) := by decide +kernel
theorem dL_trial_15 : decode cL_trial 15 = .ok (.iconst 1, 1) := by decide +kernel
theorem dL_trial_16 : decode cL_trial 16 = .ok (.ireturn, 1) := by decide +kernel
theorem dL_trial_17 : decode cL_trial 17 = .ok (.astore 4, 2) := by decide +kernel
theorem dL_trial_19 : decode cL_trial 19 = .ok (.iconst 2, 1) := by decide +kernel
theorem dL_trial_20 : decode cL_trial 20 = .ok (.ireturn, 1) := by decide +kernel
theorem dL_trial_21 : decode cL_trial 21 = .ok (.iconst 0, 1) := by decide +kernel
theorem dL_trial_22 : decode cL_trial 22 = .ok (.ireturn, 1) := by decide +kernel
theorem dL_pattern_0 : decode cL_pattern 0 = .ok (.aload_n 3, 1) := by decide +kernel
theorem dL_pattern_1 : decode cL_pattern 1 = .ok (.iconst 0, 1) := by decide +kernel
theorem dL_pattern_2 : decode cL_pattern 2 = .ok (.aload_n 0, 1) := by decide +kernel
theorem dL_pattern_3 : decode cL_pattern 3 = .ok (.iload_n 1, 1) := by decide +kernel
theorem dL_pattern_4 : decode cL_pattern 4 = .ok (.iload_n 2, 1) := by decide +kernel
theorem dL_pattern_5 : decode cL_pattern 5 = .ok (.invokevirtual 112, 3) := by decide +kernel
theorem dL_pattern_8 : decode cL_pattern 8 = .ok (.i2l, 1) := by decide +kernel
theorem dL_pattern_9 : decode cL_pattern 9 = .ok (.lastore, 1) := by decide +kernel
theorem dL_pattern_10 : decode cL_pattern 10 = .ok (.goto 7, 3) := by decide +kernel
theorem dL_pattern_13 : decode cL_pattern 13 = .ok (.astore 4, 2) := by decide +kernel
theorem dL_pattern_15 : decode cL_pattern 15 = .ok (.iconst 1, 1) := by decide +kernel
theorem dL_pattern_16 : decode cL_pattern 16 = .ok (.ireturn, 1) := by decide +kernel
theorem dL_pattern_17 : decode cL_pattern 17 = .ok (.iconst 0, 1) := by decide +kernel
theorem dL_pattern_18 : decode cL_pattern 18 = .ok (.ireturn, 1) := by decide +kernel
theorem dL_alike_0 : decode cL_alike 0 = .ok (.aload_n 3, 1) := by decide +kernel
theorem dL_alike_1 : decode cL_alike 1 = .ok (.iconst 0, 1) := by decide +kernel
theorem dL_alike_2 : decode cL_alike 2 = .ok (.aload_n 0, 1) := by decide +kernel
theorem dL_alike_3 : decode cL_alike 3 = .ok (.iload_n 1, 1) := by decide +kernel
theorem dL_alike_4 : decode cL_alike 4 = .ok (.iload_n 2, 1) := by decide +kernel
theorem dL_alike_5 : decode cL_alike 5 = .ok (.invokevirtual 115, 3) := by decide +kernel
theorem dL_alike_8 : decode cL_alike 8 = .ok (.i2l, 1) := by decide +kernel
theorem dL_alike_9 : decode cL_alike 9 = .ok (.lastore, 1) := by decide +kernel
theorem dL_alike_10 : decode cL_alike 10 = .ok (.goto 7, 3) := by decide +kernel
theorem dL_alike_13 : decode cL_alike 13 = .ok (.astore 4, 2) := by decide +kernel
theorem dL_alike_15 : decode cL_alike 15 = .ok (.iconst 1, 1) := by decide +kernel
theorem dL_alike_16 : decode cL_alike 16 = .ok (.ireturn, 1) := by decide +kernel
theorem dL_alike_17 : decode cL_alike 17 = .ok (.iconst 0, 1) := by decide +kernel
theorem dL_alike_18 : decode cL_alike 18 = .ok (.ireturn, 1) := by decide +kernel
theorem dL_near_0 : decode cL_near 0 = .ok (.aload_n 3, 1) := by decide +kernel
theorem dL_near_1 : decode cL_near 1 = .ok (.iconst 0, 1) := by decide +kernel
theorem dL_near_2 : decode cL_near 2 = .ok (.aload_n 0, 1) := by decide +kernel
theorem dL_near_3 : decode cL_near 3 = .ok (.iload_n 1, 1) := by decide +kernel
theorem dL_near_4 : decode cL_near 4 = .ok (.iload_n 2, 1) := by decide +kernel
theorem dL_near_5 : decode cL_near 5 = .ok (.invokevirtual 118, 3) := by decide +kernel
theorem dL_near_8 : decode cL_near 8 = .ok (.i2l, 1) := by decide +kernel
theorem dL_near_9 : decode cL_near 9 = .ok (.lastore, 1) := by decide +kernel
theorem dL_near_10 : decode cL_near 10 = .ok (.goto 7, 3) := by decide +kernel
theorem dL_near_13 : decode cL_near 13 = .ok (.astore 4, 2) := by decide +kernel
theorem dL_near_15 : decode cL_near 15 = .ok (.iconst 1, 1) := by decide +kernel
theorem dL_near_16 : decode cL_near 16 = .ok (.ireturn, 1) := by decide +kernel
theorem dL_near_17 : decode cL_near 17 = .ok (.iconst 0, 1) := by decide +kernel
theorem dL_near_18 : decode cL_near 18 = .ok (.ireturn, 1) := by decide +kernel
theorem dL_bunch_0 : decode cL_bunch 0 = .ok (.aload_n 3, 1) := by decide +kernel
theorem dL_bunch_1 : decode cL_bunch 1 = .ok (.iconst 0, 1) := by decide +kernel
theorem dL_bunch_2 : decode cL_bunch 2 = .ok (.aload_n 0, 1) := by decide +kernel
theorem dL_bunch_3 : decode cL_bunch 3 = .ok (.iload_n 1, 1) := by decide +kernel
theorem dL_bunch_4 : decode cL_bunch 4 = .ok (.iload_n 2, 1) := by decide +kernel
theorem dL_bunch_5 : decode cL_bunch 5 = .ok (.invokevirtual 121, 3) := by decide +kernel
theorem dL_bunch_8 : decode cL_bunch 8 = .ok (.i2l, 1) := by decide +kernel
theorem dL_bunch_9 : decode cL_bunch 9 = .ok (.lastore, 1) := by decide +kernel
theorem dL_bunch_10 : decode cL_bunch 10 = .ok (.goto 7, 3) := by decide +kernel
theorem dL_bunch_13 : decode cL_bunch 13 = .ok (.astore 4, 2) := by decide +kernel
theorem dL_bunch_15 : decode cL_bunch 15 = .ok (.iconst 1, 1) := by decide +kernel
theorem dL_bunch_16 : decode cL_bunch 16 = .ok (.ireturn, 1) := by decide +kernel
theorem dL_bunch_17 : decode cL_bunch 17 = .ok (.iconst 0, 1) := by decide +kernel
theorem dL_bunch_18 : decode cL_bunch 18 = .ok (.ireturn, 1) := by decide +kernel
theorem dL_changes_0 : decode cL_changes 0 = .ok (.aload_n 2, 1) := by decide +kernel
theorem dL_changes_1 : decode cL_changes 1 = .ok (.iconst 0, 1) := by decide +kernel
theorem dL_changes_2 : decode cL_changes 2 = .ok (.aload_n 0, 1) := by decide +kernel
theorem dL_changes_3 : decode cL_changes 3 = .ok (.iload_n 1, 1) := by decide +kernel
theorem dL_changes_4 : decode cL_changes 4 = .ok (.invokevirtual 124, 3) := by decide +kernel
theorem dL_changes_7 : decode cL_changes 7 = .ok (.i2l, 1) := by decide +kernel
theorem dL_changes_8 : decode cL_changes 8 = .ok (.lastore, 1) := by decide +kernel
theorem dL_changes_9 : decode cL_changes 9 = .ok (.goto 6, 3) := by decide +kernel
theorem dL_changes_12 : decode cL_changes 12 = .ok (.astore_n 3, 1) := by decide +kernel
theorem dL_changes_13 : decode cL_changes 13 = .ok (.iconst 1, 1) := by decide +kernel
theorem dL_changes_14 : decode cL_changes 14 = .ok (.ireturn, 1) := by decide +kernel
theorem dL_changes_15 : decode cL_changes 15 = .ok (.iconst 0, 1) := by decide +kernel
theorem dL_changes_16 : decode cL_changes 16 = .ok (.ireturn, 1) := by decide +kernel
theorem dL_group_0 : decode cL_group 0 = .ok (.aload_n 3, 1) := by decide +kernel
theorem dL_group_1 : decode cL_group 1 = .ok (.iconst 0, 1) := by decide +kernel
theorem dL_group_2 : decode cL_group 2 = .ok (.aload_n 0, 1) := by decide +kernel
theorem dL_group_3 : decode cL_group 3 = .ok (.iload_n 1, 1) := by decide +kernel
theorem dL_group_4 : decode cL_group 4 = .ok (.iload_n 2, 1) := by decide +kernel
theorem dL_group_5 : decode cL_group 5 = .ok (.invokevirtual 127, 3) := by decide +kernel
theorem dL_group_8 : decode cL_group 8 = .ok (.i2l, 1) := by decide +kernel
theorem dL_group_9 : decode cL_group 9 = .ok (.lastore, 1) := by decide +kernel
theorem dL_group_10 : decode cL_group 10 = .ok (.goto 15, 3) := by decide +kernel
theorem dL_group_13 : decode cL_group 13 = .ok (.astore 4, 2) := by decide +kernel
theorem dL_group_15 : decode cL_group 15 = .ok (.iconst 1, 1) := by decide +kernel
theorem dL_group_16 : decode cL_group 16 = .ok (.ireturn, 1) := by decide +kernel
theorem dL_group_17 : decode cL_group 17 = .ok (.astore 4, 2) := by decide +kernel
theorem dL_group_19 : decode cL_group 19 = .ok (.iconst 2, 1) := by decide +kernel
theorem dL_group_20 : decode cL_group 20 = .ok (.ireturn, 1) := by decide +kernel
theorem dL_group_21 : decode cL_group 21 = .ok (.astore 4, 2) := by decide +kernel
theorem dL_group_23 : decode cL_group 23 = .ok (.iconst 3, 1) := by decide +kernel
theorem dL_group_24 : decode cL_group 24 = .ok (.ireturn, 1) := by decide +kernel
theorem dL_group_25 : decode cL_group 25 = .ok (.iconst 0, 1) := by decide +kernel
theorem dL_group_26 : decode cL_group 26 = .ok (.ireturn, 1) := by decide +kernel
theorem dL_usual_0 : decode cL_usual 0 = .ok (.aload_n 3, 1) := by decide +kernel
theorem dL_usual_1 : decode cL_usual 1 = .ok (.iconst 0, 1) := by decide +kernel
theorem dL_usual_2 : decode cL_usual 2 = .ok (.aload_n 0, 1) := by decide +kernel
theorem dL_usual_3 : decode cL_usual 3 = .ok (.iload_n 1, 1) := by decide +kernel
theorem dL_usual_4 : decode cL_usual 4 = .ok (.iload_n 2, 1) := by decide +kernel
theorem dL_usual_5 : decode cL_usual 5 = .ok (.invokevirtual 130, 3) := by decide +kernel
theorem dL_usual_8 : decode cL_usual 8 = .ok (.i2l, 1) := by decide +kernel
theorem dL_usual_9 : decode cL_usual 9 = .ok (.lastore, 1) := by decide +kernel
theorem dL_usual_10 : decode cL_usual 10 = .ok (.goto 15, 3) := by decide +kernel
theorem dL_usual_13 : decode cL_usual 13 = .ok (.astore 4, 2) := by decide +kernel
theorem dL_usual_15 : decode cL_usual 15 = .ok (.iconst 1, 1) := by decide +kernel
theorem dL_usual_16 : decode cL_usual 16 = .ok (.ireturn, 1) := by decide +kernel
theorem dL_usual_17 : decode cL_usual 17 = .ok (.astore 4, 2) := by decide +kernel
theorem dL_usual_19 : decode cL_usual 19 = .ok (.iconst 2, 1) := by decide +kernel
theorem dL_usual_20 : decode cL_usual 20 = .ok (.ireturn, 1) := by decide +kernel
theorem dL_usual_21 : decode cL_usual 21 = .ok (.astore 4, 2) := by decide +kernel
theorem dL_usual_23 : decode cL_usual 23 = .ok (.iconst 3, 1) := by decide +kernel
theorem dL_usual_24 : decode cL_usual 24 = .ok (.ireturn, 1) := by decide +kernel
theorem dL_usual_25 : decode cL_usual 25 = .ok (.iconst 0, 1) := by decide +kernel
theorem dL_usual_26 : decode cL_usual 26 = .ok (.ireturn, 1) := by decide +kernel
theorem dL_share_0 : decode cL_share 0 = .ok (.aload_n 3, 1) := by decide +kernel
theorem dL_share_1 : decode cL_share 1 = .ok (.iconst 0, 1) := by decide +kernel
theorem dL_share_2 : decode cL_share 2 = .ok (.aload_n 0, 1) := by decide +kernel
theorem dL_share_3 : decode cL_share 3 = .ok (.iload_n 1, 1) := by decide +kernel
theorem dL_share_4 : decode cL_share 4 = .ok (.iload_n 2, 1) := by decide +kernel
theorem dL_share_5 : decode cL_share 5 = .ok (.invokevirtual 133, 3) := by decide +kernel
theorem dL_share_8 : decode cL_share 8 = .ok (.i2l, 1) := by decide +kernel
theorem dL_share_9 : decode cL_share 9 = .ok (.lastore, 1) := by decide +kernel
theorem dL_share_10 : decode cL_share 10 = .ok (.goto 11, 3) := by decide +kernel
theorem dL_share_13 : decode cL_share 13 = .ok (.astore 4, 2) := by decide +kernel
theorem dL_share_15 : decode cL_share 15 = .ok (.iconst 1, 1) := by decide +kernel
theorem dL_share_16 : decode cL_share 16 = .ok (.ireturn, 1) := by decide +kernel
theorem dL_share_17 : decode cL_share 17 = .ok (.astore 4, 2) := by decide +kernel
theorem dL_share_19 : decode cL_share 19 = .ok (.iconst 2, 1) := by decide +kernel
theorem dL_share_20 : decode cL_share 20 = .ok (.ireturn, 1) := by decide +kernel
theorem dL_share_21 : decode cL_share 21 = .ok (.iconst 0, 1) := by decide +kernel
theorem dL_share_22 : decode cL_share 22 = .ok (.ireturn, 1) := by decide +kernel
theorem dL_write_0 : decode cL_write 0 = .ok (.aload_n 2, 1) := by decide +kernel
theorem dL_write_1 : decode cL_write 1 = .ok (.iconst 0, 1) := by decide +kernel
theorem dL_write_2 : decode cL_write 2 = .ok (.aload_n 0, 1) := by decide +kernel
theorem dL_write_3 : decode cL_write 3 = .ok (.iload_n 1, 1) := by decide +kernel
theorem dL_write_4 : decode cL_write 4 = .ok (.invokevirtual 136, 3) := by decide +kernel
theorem dL_write_7 : decode cL_write 7 = .ok (.i2l, 1) := by decide +kernel
theorem dL_write_8 : decode cL_write 8 = .ok (.lastore, 1) := by decide +kernel
theorem dL_write_9 : decode cL_write 9 = .ok (.goto 6, 3) := by decide +kernel
theorem dL_write_12 : decode cL_write 12 = .ok (.astore_n 3, 1) := by decide +kernel
theorem dL_write_13 : decode cL_write 13 = .ok (.iconst 1, 1) := by decide +kernel
theorem dL_write_14 : decode cL_write 14 = .ok (.ireturn, 1) := by decide +kernel
theorem dL_write_15 : decode cL_write 15 = .ok (.iconst 0, 1) := by decide +kernel
theorem dL_write_16 : decode cL_write 16 = .ok (.ireturn, 1) := by decide +kernel
theorem wcw_read : Cond.codeWith yL_read cL_read 3 (some .int) [(0, 8, 11, 13)] ∈ zT := zT_k3 74 rfl rfl
theorem zyH_read : Cond.codeWith yL_read cL_read 3 (some .int) [(0, 8, 11, 13)] ∈ zT ∧ Cond.initialized yL_read.cls ∈ zT ∧ (yL_read.cls ≠ "java/lang/invoke/MethodHandle" ∧ yL_read.cls ≠ "java/lang/invoke/VarHandle") ∧ (parseMethodDescriptor yL_read.desc).map (fun d => d.parameters.length) = some 2 ∧ 3 ≤ 31 := ⟨wcw_read, w0, ⟨by decide, by decide⟩, by decide +kernel, by decide⟩
noncomputable def nL_read (g : zS) : Option (Int32 × zS) :=
  (nX10_read g).bind fun v => zel2 v (fun w g2 => some ((0 : Int32), (zl g2 72 (0 : Int32).toNatClampNeg w.toInt64))) (fun e g2 => if e = "java/lang/IllegalArgumentException" then (some ((1 : Int32), g2)) else (none))
set_option maxHeartbeats 400000 in
theorem tL_read {l : Launch} (hl0 : l.flags = flags0) (g : zS) {r : Int32 × zS} (h : nL_read  g = some r) : zCx l yL_read (.codeWith yL_read cL_read 3 (some .int) [(0, 8, 11, 13)]) 10 1 6 [.ref 0, .ref 72] zD g (.inl (some (.int r.1)), zD, r.2) := by
  refine zCx_ofH hl0 rfl (Nat.le_of_ble_eq_true rfl) (fun x hG hxl hk => ?_)
  subst hxl
  have hG : zGH x cL_read 3 RL (some .int) [⟨0, 8, 11, 13⟩] := hG
  show zK x 10 0 [(0, .ref 0), (1, .ref 72)] [] zD g 1 6
  unfold nL_read at h
  refine zh_aload_n (pc := 0) hG 1 rfl rfl dL_read_0 ?_
  refine zh_iconst (pc := 1) hG kc_0 dL_read_1 ?_
  refine zh_aload_n (pc := 2) hG 0 rfl rfl dL_read_2 ?_
  replace h := zbind h
  obtain ⟨⟨w | e, g2⟩, hv, h⟩ := h
  · replace h := zel2_l h
    have hC := tX10_read hl0  g hv
    try dsimp only [ztI, ztV, ztJ] at hC
    refine zh_after (v := some (.int w)) (rest := [.int (0 : Int32), .ref 72]) (A' := 0) (B' := 0) hG rfl rfl (by omega) (by omega) ?_ (zh_run hG [] zc_X10 DL_0 hC zy_X10_read ⟨w557, w558⟩ w556 dL_read_3 rfl (Nat.le_of_ble_eq_true rfl) (Nat.le_of_ble_eq_true rfl) rfl)
    show zK x 10 6 [(0, .ref 0), (1, .ref 72)] [.int w, .int (0 : Int32), .ref 72] zD g2 0 0
    refine zh_i2l (pc := 6) hG dL_read_6 ?_
    refine zh_last (pc := 7) hG DL_72 (zin_in (by decide)) dL_read_7 ?_
    refine zh_goto (pc := 8) (tgt := 14) hG dL_read_8 rfl ?_
    refine zh_iconst (pc := 14) hG kc_0 dL_read_14 ?_
    obtain rfl := Option.some.inj h
    exact zh_iret (pc := 15) hG rfl rfl hk dL_read_15
  · replace h := zel2_r h
    have hC := tX10_read hl0  g hv
    try dsimp only [ztI, ztV, ztJ] at hC
    by_cases he0 : e = "java/lang/IllegalArgumentException"
    · subst he0
      replace h := zif_t rfl h
      refine zh_afterX (rest := [.int (0 : Int32), .ref 72]) (A' := 0) (B' := 0) (E := "java/lang/IllegalArgumentException") hG [] ⟨0, 8, 11, 13⟩ [] rfl (fun _ h => nomatch h) (by decide) (by decide) w555 (by decide) rfl rfl (by omega) (by omega) ?_ (zh_run hG [] zc_X10 DL_0 hC zy_X10_read ⟨w557, w558⟩ w556 dL_read_3 rfl (Nat.le_of_ble_eq_true rfl) (Nat.le_of_ble_eq_true rfl) rfl)
      refine zh_astore_n (pc := 11) (ls' := [(2, .ref 899), (0, .ref 0), (1, .ref 72)]) hG [0, 1, 2] rfl (by decide) rfl dL_read_11 ?_
      refine zh_iconst (pc := 12) hG kc_1 dL_read_12 ?_
      obtain rfl := Option.some.inj h
      exact zh_iret (pc := 13) hG rfl rfl hk dL_read_13
    replace h := zif_f he0 h
    cases h
theorem wcw_field : Cond.codeWith yL_field cL_field 5 (some .int) [(0, 10, 13, 19), (0, 10, 17, 21)] ∈ zT := zT_k4 106 rfl rfl
theorem zyH_field : Cond.codeWith yL_field cL_field 5 (some .int) [(0, 10, 13, 19), (0, 10, 17, 21)] ∈ zT ∧ Cond.initialized yL_field.cls ∈ zT ∧ (yL_field.cls ≠ "java/lang/invoke/MethodHandle" ∧ yL_field.cls ≠ "java/lang/invoke/VarHandle") ∧ (parseMethodDescriptor yL_field.desc).map (fun d => d.parameters.length) = some 4 ∧ 5 ≤ 31 := ⟨wcw_field, w0, ⟨by decide, by decide⟩, by decide +kernel, by decide⟩
noncomputable def nL_field (a1 : Int32) (a2 : Int32) (g : zS) : Option (Int32 × zS) :=
  (nX10_field a1 a2 g).bind fun v => zel v (fun w => some ((0 : Int32), (zl g 72 (0 : Int32).toNatClampNeg w.toInt64))) (fun e => if e = "java/lang/IndexOutOfBoundsException" then (some ((1 : Int32), g)) else (if e = "java/util/NoSuchElementException" then (some ((2 : Int32), g)) else (none)))
set_option maxHeartbeats 400000 in
theorem tL_field {l : Launch} (hl0 : l.flags = flags0) (a1 : Int32) (a2 : Int32) (g : zS) {r : Int32 × zS} (h : nL_field a1 a2 g = some r) : zCx l yL_field (.codeWith yL_field cL_field 5 (some .int) [(0, 10, 13, 19), (0, 10, 17, 21)]) 10 2 12 [.ref 0, .int a1, .int a2, .ref 72] zD g (.inl (some (.int r.1)), zD, r.2) := by
  refine zCx_ofH hl0 rfl (Nat.le_of_ble_eq_true rfl) (fun x hG hxl hk => ?_)
  subst hxl
  have hG : zGH x cL_field 5 RL (some .int) [⟨0, 10, 13, 19⟩, ⟨0, 10, 17, 21⟩] := hG
  show zK x 10 0 [(0, .ref 0), (1, .int a1), (2, .int a2), (3, .ref 72)] [] zD g 2 12
  unfold nL_field at h
  refine zh_aload_n (pc := 0) hG 3 rfl rfl dL_field_0 ?_
  refine zh_iconst (pc := 1) hG kc_0 dL_field_1 ?_
  refine zh_aload_n (pc := 2) hG 0 rfl rfl dL_field_2 ?_
  refine zh_iload_n (pc := 3) hG 1 rfl rfl dL_field_3 ?_
  refine zh_iload_n (pc := 4) hG 2 rfl rfl dL_field_4 ?_
  replace h := zbind h
  obtain ⟨w | e, hv, h⟩ := h
  · replace h := zel_l h
    have hC := tX10_field hl0 a1 a2 g hv
    try dsimp only [ztI, ztV, ztJ] at hC
    refine zh_after (v := some (.int w)) (rest := [.int (0 : Int32), .ref 72]) (A' := 0) (B' := 0) hG rfl rfl (by omega) (by omega) ?_ (zh_run hG [.int a1, .int a2] zc_X10 DL_0 hC zy_X10_field ⟨w830, w831⟩ w829 dL_field_5 rfl (Nat.le_of_ble_eq_true rfl) (Nat.le_of_ble_eq_true rfl) rfl)
    show zK x 10 8 [(0, .ref 0), (1, .int a1), (2, .int a2), (3, .ref 72)] [.int w, .int (0 : Int32), .ref 72] zD g 0 0
    refine zh_i2l (pc := 8) hG dL_field_8 ?_
    refine zh_last (pc := 9) hG DL_72 (zin_in (by decide)) dL_field_9 ?_
    refine zh_goto (pc := 10) (tgt := 21) hG dL_field_10 rfl ?_
    refine zh_iconst (pc := 21) hG kc_0 dL_field_21 ?_
    obtain rfl := Option.some.inj h
    exact zh_iret (pc := 22) hG rfl rfl hk dL_field_22
  · replace h := zel_r h
    have hC := tX10_field hl0 a1 a2 g hv
    try dsimp only [ztI, ztV, ztJ] at hC
    by_cases he0 : e = "java/lang/IndexOutOfBoundsException"
    · subst he0
      replace h := zif_t rfl h
      refine zh_afterX (rest := [.int (0 : Int32), .ref 72]) (A' := 0) (B' := 0) (E := "java/lang/IndexOutOfBoundsException") hG [] ⟨0, 10, 13, 19⟩ [⟨0, 10, 17, 21⟩] rfl (fun _ h => nomatch h) (by decide) (by decide) w827 (by decide) rfl rfl (by omega) (by omega) ?_ (zh_run hG [.int a1, .int a2] zc_X10 DL_0 hC zy_X10_field ⟨w830, w831⟩ w829 dL_field_5 rfl (Nat.le_of_ble_eq_true rfl) (Nat.le_of_ble_eq_true rfl) rfl)
      refine zh_astore (pc := 13) (ls' := [(4, .ref 899), (0, .ref 0), (1, .int a1), (2, .int a2), (3, .ref 72)]) hG [0, 1, 2, 3, 4] (by decide) rfl dL_field_13 ?_
      refine zh_iconst (pc := 15) hG kc_1 dL_field_15 ?_
      obtain rfl := Option.some.inj h
      exact zh_iret (pc := 16) hG rfl rfl hk dL_field_16
    replace h := zif_f he0 h
    by_cases he1 : e = "java/util/NoSuchElementException"
    · subst he1
      replace h := zif_t rfl h
      refine zh_afterX (rest := [.int (0 : Int32), .ref 72]) (A' := 0) (B' := 0) (E := "java/util/NoSuchElementException") hG [⟨0, 10, 13, 19⟩] ⟨0, 10, 17, 21⟩ [] rfl (List.forall_mem_cons.mpr ⟨Or.inr ⟨by decide, "java/lang/IndexOutOfBoundsException", by decide, by decide, w827⟩, (fun _ h => nomatch h)⟩) (by decide) (by decide) w828 (by decide) rfl rfl (by omega) (by omega) ?_ (zh_run hG [.int a1, .int a2] zc_X10 DL_0 hC zy_X10_field ⟨w830, w831⟩ w829 dL_field_5 rfl (Nat.le_of_ble_eq_true rfl) (Nat.le_of_ble_eq_true rfl) rfl)
      refine zh_astore (pc := 17) (ls' := [(4, .ref 899), (0, .ref 0), (1, .int a1), (2, .int a2), (3, .ref 72)]) hG [0, 1, 2, 3, 4] (by decide) rfl dL_field_17 ?_
      refine zh_iconst (pc := 19) hG kc_2 dL_field_19 ?_
      obtain rfl := Option.some.inj h
      exact zh_iret (pc := 20) hG rfl rfl hk dL_field_20
    replace h := zif_f he1 h
    cases h
theorem wcw_name : Cond.codeWith yL_name cL_name 5 (some .int) [(0, 10, 13, 19)] ∈ zT := zT_k4 149 rfl rfl
theorem zyH_name : Cond.codeWith yL_name cL_name 5 (some .int) [(0, 10, 13, 19)] ∈ zT ∧ Cond.initialized yL_name.cls ∈ zT ∧ (yL_name.cls ≠ "java/lang/invoke/MethodHandle" ∧ yL_name.cls ≠ "java/lang/invoke/VarHandle") ∧ (parseMethodDescriptor yL_name.desc).map (fun d => d.parameters.length) = some 4 ∧ 5 ≤ 31 := ⟨wcw_name, w0, ⟨by decide, by decide⟩, by decide +kernel, by decide⟩
noncomputable def nL_name (a1 : Int32) (a2 : Int32) (g : zS) : Option (Int32 × zS) :=
  (nX10_name a1 a2 g).bind fun v => zel v (fun w => some ((0 : Int32), (zl g 72 (0 : Int32).toNatClampNeg w.toInt64))) (fun e => if e = "java/lang/IndexOutOfBoundsException" then (some ((1 : Int32), g)) else (none))
set_option maxHeartbeats 400000 in
theorem tL_name {l : Launch} (hl0 : l.flags = flags0) (a1 : Int32) (a2 : Int32) (g : zS) {r : Int32 × zS} (h : nL_name a1 a2 g = some r) : zCx l yL_name (.codeWith yL_name cL_name 5 (some .int) [(0, 10, 13, 19)]) 10 1 6 [.ref 0, .int a1, .int a2, .ref 72] zD g (.inl (some (.int r.1)), zD, r.2) := by
  refine zCx_ofH hl0 rfl (Nat.le_of_ble_eq_true rfl) (fun x hG hxl hk => ?_)
  subst hxl
  have hG : zGH x cL_name 5 RL (some .int) [⟨0, 10, 13, 19⟩] := hG
  show zK x 10 0 [(0, .ref 0), (1, .int a1), (2, .int a2), (3, .ref 72)] [] zD g 1 6
  unfold nL_name at h
  refine zh_aload_n (pc := 0) hG 3 rfl rfl dL_name_0 ?_
  refine zh_iconst (pc := 1) hG kc_0 dL_name_1 ?_
  refine zh_aload_n (pc := 2) hG 0 rfl rfl dL_name_2 ?_
  refine zh_iload_n (pc := 3) hG 1 rfl rfl dL_name_3 ?_
  refine zh_iload_n (pc := 4) hG 2 rfl rfl dL_name_4 ?_
  replace h := zbind h
  obtain ⟨w | e, hv, h⟩ := h
  · replace h := zel_l h
    have hC := tX10_name hl0 a1 a2 g hv
    try dsimp only [ztI, ztV, ztJ] at hC
    refine zh_after (v := some (.int w)) (rest := [.int (0 : Int32), .ref 72]) (A' := 0) (B' := 0) hG rfl rfl (by omega) (by omega) ?_ (zh_run hG [.int a1, .int a2] zc_X10 DL_0 hC zy_X10_name ⟨w871, w872⟩ w870 dL_name_5 rfl (Nat.le_of_ble_eq_true rfl) (Nat.le_of_ble_eq_true rfl) rfl)
    show zK x 10 8 [(0, .ref 0), (1, .int a1), (2, .int a2), (3, .ref 72)] [.int w, .int (0 : Int32), .ref 72] zD g 0 0
    refine zh_i2l (pc := 8) hG dL_name_8 ?_
    refine zh_last (pc := 9) hG DL_72 (zin_in (by decide)) dL_name_9 ?_
    refine zh_goto (pc := 10) (tgt := 17) hG dL_name_10 rfl ?_
    refine zh_iconst (pc := 17) hG kc_0 dL_name_17 ?_
    obtain rfl := Option.some.inj h
    exact zh_iret (pc := 18) hG rfl rfl hk dL_name_18
  · replace h := zel_r h
    have hC := tX10_name hl0 a1 a2 g hv
    try dsimp only [ztI, ztV, ztJ] at hC
    by_cases he0 : e = "java/lang/IndexOutOfBoundsException"
    · subst he0
      replace h := zif_t rfl h
      refine zh_afterX (rest := [.int (0 : Int32), .ref 72]) (A' := 0) (B' := 0) (E := "java/lang/IndexOutOfBoundsException") hG [] ⟨0, 10, 13, 19⟩ [] rfl (fun _ h => nomatch h) (by decide) (by decide) w827 (by decide) rfl rfl (by omega) (by omega) ?_ (zh_run hG [.int a1, .int a2] zc_X10 DL_0 hC zy_X10_name ⟨w871, w872⟩ w870 dL_name_5 rfl (Nat.le_of_ble_eq_true rfl) (Nat.le_of_ble_eq_true rfl) rfl)
      refine zh_astore (pc := 13) (ls' := [(4, .ref 899), (0, .ref 0), (1, .int a1), (2, .int a2), (3, .ref 72)]) hG [0, 1, 2, 3, 4] (by decide) rfl dL_name_13 ?_
      refine zh_iconst (pc := 15) hG kc_1 dL_name_15 ?_
      obtain rfl := Option.some.inj h
      exact zh_iret (pc := 16) hG rfl rfl hk dL_name_16
    replace h := zif_f he0 h
    cases h
theorem wcw_edit : Cond.codeWith yL_edit cL_edit 5 (some .int) [(0, 10, 13, 19)] ∈ zT := zT_k4 157 rfl rfl
theorem zyH_edit : Cond.codeWith yL_edit cL_edit 5 (some .int) [(0, 10, 13, 19)] ∈ zT ∧ Cond.initialized yL_edit.cls ∈ zT ∧ (yL_edit.cls ≠ "java/lang/invoke/MethodHandle" ∧ yL_edit.cls ≠ "java/lang/invoke/VarHandle") ∧ (parseMethodDescriptor yL_edit.desc).map (fun d => d.parameters.length) = some 4 ∧ 5 ≤ 31 := ⟨wcw_edit, w0, ⟨by decide, by decide⟩, by decide +kernel, by decide⟩
noncomputable def nL_edit (a1 : Int32) (a2 : Int32) (g : zS) : Option (Int32 × zS) :=
  (nX10_edit a1 a2 g).bind fun v => zel v (fun w => some ((0 : Int32), (zl g 72 (0 : Int32).toNatClampNeg w.toInt64))) (fun e => if e = "java/lang/IndexOutOfBoundsException" then (some ((1 : Int32), g)) else (none))
set_option maxHeartbeats 400000 in
theorem tL_edit {l : Launch} (hl0 : l.flags = flags0) (a1 : Int32) (a2 : Int32) (g : zS) {r : Int32 × zS} (h : nL_edit a1 a2 g = some r) : zCx l yL_edit (.codeWith yL_edit cL_edit 5 (some .int) [(0, 10, 13, 19)]) 10 2 12 [.ref 0, .int a1, .int a2, .ref 72] zD g (.inl (some (.int r.1)), zD, r.2) := by
  refine zCx_ofH hl0 rfl (Nat.le_of_ble_eq_true rfl) (fun x hG hxl hk => ?_)
  subst hxl
  have hG : zGH x cL_edit 5 RL (some .int) [⟨0, 10, 13, 19⟩] := hG
  show zK x 10 0 [(0, .ref 0), (1, .int a1), (2, .int a2), (3, .ref 72)] [] zD g 2 12
  unfold nL_edit at h
  refine zh_aload_n (pc := 0) hG 3 rfl rfl dL_edit_0 ?_
  refine zh_iconst (pc := 1) hG kc_0 dL_edit_1 ?_
  refine zh_aload_n (pc := 2) hG 0 rfl rfl dL_edit_2 ?_
  refine zh_iload_n (pc := 3) hG 1 rfl rfl dL_edit_3 ?_
  refine zh_iload_n (pc := 4) hG 2 rfl rfl dL_edit_4 ?_
  replace h := zbind h
  obtain ⟨w | e, hv, h⟩ := h
  · replace h := zel_l h
    have hC := tX10_edit hl0 a1 a2 g hv
    try dsimp only [ztI, ztV, ztJ] at hC
    refine zh_after (v := some (.int w)) (rest := [.int (0 : Int32), .ref 72]) (A' := 0) (B' := 0) hG rfl rfl (by omega) (by omega) ?_ (zh_run hG [.int a1, .int a2] zc_X10 DL_0 hC zy_X10_edit ⟨w879, w880⟩ w878 dL_edit_5 rfl (Nat.le_of_ble_eq_true rfl) (Nat.le_of_ble_eq_true rfl) rfl)
    show zK x 10 8 [(0, .ref 0), (1, .int a1), (2, .int a2), (3, .ref 72)] [.int w, .int (0 : Int32), .ref 72] zD g 0 0
    refine zh_i2l (pc := 8) hG dL_edit_8 ?_
    refine zh_last (pc := 9) hG DL_72 (zin_in (by decide)) dL_edit_9 ?_
    refine zh_goto (pc := 10) (tgt := 17) hG dL_edit_10 rfl ?_
    refine zh_iconst (pc := 17) hG kc_0 dL_edit_17 ?_
    obtain rfl := Option.some.inj h
    exact zh_iret (pc := 18) hG rfl rfl hk dL_edit_18
  · replace h := zel_r h
    have hC := tX10_edit hl0 a1 a2 g hv
    try dsimp only [ztI, ztV, ztJ] at hC
    by_cases he0 : e = "java/lang/IndexOutOfBoundsException"
    · subst he0
      replace h := zif_t rfl h
      refine zh_afterX (rest := [.int (0 : Int32), .ref 72]) (A' := 0) (B' := 0) (E := "java/lang/IndexOutOfBoundsException") hG [] ⟨0, 10, 13, 19⟩ [] rfl (fun _ h => nomatch h) (by decide) (by decide) w827 (by decide) rfl rfl (by omega) (by omega) ?_ (zh_run hG [.int a1, .int a2] zc_X10 DL_0 hC zy_X10_edit ⟨w879, w880⟩ w878 dL_edit_5 rfl (Nat.le_of_ble_eq_true rfl) (Nat.le_of_ble_eq_true rfl) rfl)
      refine zh_astore (pc := 13) (ls' := [(4, .ref 899), (0, .ref 0), (1, .int a1), (2, .int a2), (3, .ref 72)]) hG [0, 1, 2, 3, 4] (by decide) rfl dL_edit_13 ?_
      refine zh_iconst (pc := 15) hG kc_1 dL_edit_15 ?_
      obtain rfl := Option.some.inj h
      exact zh_iret (pc := 16) hG rfl rfl hk dL_edit_16
    replace h := zif_f he0 h
    cases h
theorem wcw_from : Cond.codeWith yL_from cL_from 4 (some .int) [(0, 9, 12, 21)] ∈ zT := zT_k4 169 rfl rfl
theorem zyH_from : Cond.codeWith yL_from cL_from 4 (some .int) [(0, 9, 12, 21)] ∈ zT ∧ Cond.initialized yL_from.cls ∈ zT ∧ (yL_from.cls ≠ "java/lang/invoke/MethodHandle" ∧ yL_from.cls ≠ "java/lang/invoke/VarHandle") ∧ (parseMethodDescriptor yL_from.desc).map (fun d => d.parameters.length) = some 3 ∧ 4 ≤ 31 := ⟨wcw_from, w0, ⟨by decide, by decide⟩, by decide +kernel, by decide⟩
noncomputable def nL_from (a1 : Int32) (g : zS) : Option (Int32 × zS) :=
  (nX10_from a1 g).bind fun v => zel2 v (fun w g2 => some ((0 : Int32), (zl g2 72 (0 : Int32).toNatClampNeg w.toInt64))) (fun e g2 => if e = "java/util/NoSuchElementException" then (some ((1 : Int32), g2)) else (none))
set_option maxHeartbeats 400000 in
theorem tL_from {l : Launch} (hl0 : l.flags = flags0) (a1 : Int32) (g : zS) {r : Int32 × zS} (h : nL_from a1 g = some r) : zCx l yL_from (.codeWith yL_from cL_from 4 (some .int) [(0, 9, 12, 21)]) 64 (1 + (r.2.2.2.2 / 64 - g.2.2.2 / 64)) (6 + 2 * (r.2.2.2.2 - g.2.2.2)) [.ref 0, .int a1, .ref 72] zD g (.inl (some (.int r.1)), zD, r.2) := by
  refine zCx_ofH hl0 rfl (Nat.le_of_ble_eq_true rfl) (fun x hG hxl hk => ?_)
  subst hxl
  have hG : zGH x cL_from 4 RL (some .int) [⟨0, 9, 12, 21⟩] := hG
  show zK x 64 0 [(0, .ref 0), (1, .int a1), (2, .ref 72)] [] zD g (1 + (r.2.2.2.2 / 64 - g.2.2.2 / 64)) (6 + 2 * (r.2.2.2.2 - g.2.2.2))
  unfold nL_from at h
  refine zh_aload_n (pc := 0) hG 2 rfl rfl dL_from_0 ?_
  refine zh_iconst (pc := 1) hG kc_0 dL_from_1 ?_
  refine zh_aload_n (pc := 2) hG 0 rfl rfl dL_from_2 ?_
  refine zh_iload_n (pc := 3) hG 1 rfl rfl dL_from_3 ?_
  replace h := zbind h
  obtain ⟨⟨w | e, g2⟩, hv, h⟩ := h
  · replace h := zel2_l h
    obtain rfl := Option.some.inj h
    have hC := tX10_from hl0 a1 g hv
    try dsimp only [ztI, ztV, ztJ] at hC
    refine zh_after (v := some (.int w)) (rest := [.int (0 : Int32), .ref 72]) (A' := 0) (B' := 0) hG rfl rfl (Nat.zero_add _).symm (Nat.zero_add _).symm ?_ (zh_run hG [.int a1] zc_X10 DL_0 hC zy_X10_from ⟨w891, w892⟩ w890 dL_from_4 rfl (Nat.le_of_ble_eq_true rfl) (Nat.le_of_ble_eq_true rfl) rfl)
    show zK x 64 7 [(0, .ref 0), (1, .int a1), (2, .ref 72)] [.int w, .int (0 : Int32), .ref 72] zD g2 0 0
    refine zh_i2l (pc := 7) hG dL_from_7 ?_
    refine zh_last (pc := 8) hG DL_72 (zin_in (by decide)) dL_from_8 ?_
    refine zh_goto (pc := 9) (tgt := 15) hG dL_from_9 rfl ?_
    refine zh_iconst (pc := 15) hG kc_0 dL_from_15 ?_
    exact zh_iret (pc := 16) hG rfl rfl hk dL_from_16
  · replace h := zel2_r h
    have hC := tX10_from hl0 a1 g hv
    try dsimp only [ztI, ztV, ztJ] at hC
    by_cases he0 : e = "java/util/NoSuchElementException"
    · subst he0
      replace h := zif_t rfl h
      obtain rfl := Option.some.inj h
      refine zh_afterX (rest := [.int (0 : Int32), .ref 72]) (A' := 0) (B' := 0) (E := "java/util/NoSuchElementException") hG [] ⟨0, 9, 12, 21⟩ [] rfl (fun _ h => nomatch h) (by decide) (by decide) w828 (by decide) rfl rfl (Nat.zero_add _).symm (Nat.zero_add _).symm ?_ (zh_run hG [.int a1] zc_X10 DL_0 hC zy_X10_from ⟨w891, w892⟩ w890 dL_from_4 rfl (Nat.le_of_ble_eq_true rfl) (Nat.le_of_ble_eq_true rfl) rfl)
      refine zh_astore_n (pc := 12) (ls' := [(3, .ref 899), (0, .ref 0), (1, .int a1), (2, .ref 72)]) hG [0, 1, 2, 3] rfl (by decide) rfl dL_from_12 ?_
      refine zh_iconst (pc := 13) hG kc_1 dL_from_13 ?_
      exact zh_iret (pc := 14) hG rfl rfl hk dL_from_14
    replace h := zif_f he0 h
    cases h
theorem wcw_cover : Cond.codeWith yL_cover cL_cover 5 (some .int) [(0, 10, 13, 21)] ∈ zT := zT_k4 191 rfl rfl
theorem zyH_cover : Cond.codeWith yL_cover cL_cover 5 (some .int) [(0, 10, 13, 21)] ∈ zT ∧ Cond.initialized yL_cover.cls ∈ zT ∧ (yL_cover.cls ≠ "java/lang/invoke/MethodHandle" ∧ yL_cover.cls ≠ "java/lang/invoke/VarHandle") ∧ (parseMethodDescriptor yL_cover.desc).map (fun d => d.parameters.length) = some 4 ∧ 5 ≤ 31 := ⟨wcw_cover, w0, ⟨by decide, by decide⟩, by decide +kernel, by decide⟩
noncomputable def nL_cover (a1 : Int32) (a2 : Int32) (g : zS) : Option (Int32 × zS) :=
  (nX10_cover a1 a2 g).bind fun v => zel2 v (fun w g2 => some ((0 : Int32), (zl g2 72 (0 : Int32).toNatClampNeg w.toInt64))) (fun e g2 => if e = "java/util/NoSuchElementException" then (some ((1 : Int32), g2)) else (none))
set_option maxHeartbeats 400000 in
theorem tL_cover {l : Launch} (hl0 : l.flags = flags0) (a1 : Int32) (a2 : Int32) (g : zS) {r : Int32 × zS} (h : nL_cover a1 a2 g = some r) : zCx l yL_cover (.codeWith yL_cover cL_cover 5 (some .int) [(0, 10, 13, 21)]) 64 (1 + (r.2.2.2.2 / 64 - g.2.2.2 / 64)) (6 + 2 * (r.2.2.2.2 - g.2.2.2)) [.ref 0, .int a1, .int a2, .ref 72] zD g (.inl (some (.int r.1)), zD, r.2) := by
  refine zCx_ofH hl0 rfl (Nat.le_of_ble_eq_true rfl) (fun x hG hxl hk => ?_)
  subst hxl
  have hG : zGH x cL_cover 5 RL (some .int) [⟨0, 10, 13, 21⟩] := hG
  show zK x 64 0 [(0, .ref 0), (1, .int a1), (2, .int a2), (3, .ref 72)] [] zD g (1 + (r.2.2.2.2 / 64 - g.2.2.2 / 64)) (6 + 2 * (r.2.2.2.2 - g.2.2.2))
  unfold nL_cover at h
  refine zh_aload_n (pc := 0) hG 3 rfl rfl dL_cover_0 ?_
  refine zh_iconst (pc := 1) hG kc_0 dL_cover_1 ?_
  refine zh_aload_n (pc := 2) hG 0 rfl rfl dL_cover_2 ?_
  refine zh_iload_n (pc := 3) hG 1 rfl rfl dL_cover_3 ?_
  refine zh_iload_n (pc := 4) hG 2 rfl rfl dL_cover_4 ?_
  replace h := zbind h
  obtain ⟨⟨w | e, g2⟩, hv, h⟩ := h
  · replace h := zel2_l h
    obtain rfl := Option.some.inj h
    have hC := tX10_cover hl0 a1 a2 g hv
    try dsimp only [ztI, ztV, ztJ] at hC
    refine zh_after (v := some (.int w)) (rest := [.int (0 : Int32), .ref 72]) (A' := 0) (B' := 0) hG rfl rfl (Nat.zero_add _).symm (Nat.zero_add _).symm ?_ (zh_run hG [.int a1, .int a2] zc_X10 DL_0 hC zy_X10_cover ⟨w913, w914⟩ w912 dL_cover_5 rfl (Nat.le_of_ble_eq_true rfl) (Nat.le_of_ble_eq_true rfl) rfl)
    show zK x 64 8 [(0, .ref 0), (1, .int a1), (2, .int a2), (3, .ref 72)] [.int w, .int (0 : Int32), .ref 72] zD g2 0 0
    refine zh_i2l (pc := 8) hG dL_cover_8 ?_
    refine zh_last (pc := 9) hG DL_72 (zin_in (by decide)) dL_cover_9 ?_
    refine zh_goto (pc := 10) (tgt := 17) hG dL_cover_10 rfl ?_
    refine zh_iconst (pc := 17) hG kc_0 dL_cover_17 ?_
    exact zh_iret (pc := 18) hG rfl rfl hk dL_cover_18
  · replace h := zel2_r h
    have hC := tX10_cover hl0 a1 a2 g hv
    try dsimp only [ztI, ztV, ztJ] at hC
    by_cases he0 : e = "java/util/NoSuchElementException"
    · subst he0
      replace h := zif_t rfl h
      obtain rfl := Option.some.inj h
      refine zh_afterX (rest := [.int (0 : Int32), .ref 72]) (A' := 0) (B' := 0) (E := "java/util/NoSuchElementException") hG [] ⟨0, 10, 13, 21⟩ [] rfl (fun _ h => nomatch h) (by decide) (by decide) w828 (by decide) rfl rfl (Nat.zero_add _).symm (Nat.zero_add _).symm ?_ (zh_run hG [.int a1, .int a2] zc_X10 DL_0 hC zy_X10_cover ⟨w913, w914⟩ w912 dL_cover_5 rfl (Nat.le_of_ble_eq_true rfl) (Nat.le_of_ble_eq_true rfl) rfl)
      refine zh_astore (pc := 13) (ls' := [(4, .ref 899), (0, .ref 0), (1, .int a1), (2, .int a2), (3, .ref 72)]) hG [0, 1, 2, 3, 4] (by decide) rfl dL_cover_13 ?_
      refine zh_iconst (pc := 15) hG kc_1 dL_cover_15 ?_
      exact zh_iret (pc := 16) hG rfl rfl hk dL_cover_16
    replace h := zif_f he0 h
    cases h
theorem wcw_idle : Cond.codeWith yL_idle cL_idle 4 (some .int) [(0, 16, 19, 19)] ∈ zT := zT_k4 221 rfl rfl
theorem zyH_idle : Cond.codeWith yL_idle cL_idle 4 (some .int) [(0, 16, 19, 19)] ∈ zT ∧ Cond.initialized yL_idle.cls ∈ zT ∧ (yL_idle.cls ≠ "java/lang/invoke/MethodHandle" ∧ yL_idle.cls ≠ "java/lang/invoke/VarHandle") ∧ (parseMethodDescriptor yL_idle.desc).map (fun d => d.parameters.length) = some 3 ∧ 4 ≤ 31 := ⟨wcw_idle, w0, ⟨by decide, by decide⟩, by decide +kernel, by decide⟩
noncomputable def nL_idle (a1 : Int32) (g : zS) : Option (Int32 × zS) :=
  (nX10_idle a1 g).bind fun v => zel v (fun w => if w = 0 then (some ((0 : Int32), (zl g 72 (0 : Int32).toNatClampNeg (0 : Int64)))) else (some ((0 : Int32), (zl g 72 (0 : Int32).toNatClampNeg (1 : Int64))))) (fun e => if e = "java/lang/IndexOutOfBoundsException" then (some ((1 : Int32), g)) else (none))
set_option maxHeartbeats 400000 in
theorem tL_idle {l : Launch} (hl0 : l.flags = flags0) (a1 : Int32) (g : zS) {r : Int32 × zS} (h : nL_idle a1 g = some r) : zCx l yL_idle (.codeWith yL_idle cL_idle 4 (some .int) [(0, 16, 19, 19)]) 10 1 6 [.ref 0, .int a1, .ref 72] zD g (.inl (some (.int r.1)), zD, r.2) := by
  refine zCx_ofH hl0 rfl (Nat.le_of_ble_eq_true rfl) (fun x hG hxl hk => ?_)
  subst hxl
  have hG : zGH x cL_idle 4 RL (some .int) [⟨0, 16, 19, 19⟩] := hG
  show zK x 10 0 [(0, .ref 0), (1, .int a1), (2, .ref 72)] [] zD g 1 6
  unfold nL_idle at h
  refine zh_aload_n (pc := 0) hG 2 rfl rfl dL_idle_0 ?_
  refine zh_iconst (pc := 1) hG kc_0 dL_idle_1 ?_
  refine zh_aload_n (pc := 2) hG 0 rfl rfl dL_idle_2 ?_
  refine zh_iload_n (pc := 3) hG 1 rfl rfl dL_idle_3 ?_
  replace h := zbind h
  obtain ⟨w | e, hv, h⟩ := h
  · replace h := zel_l h
    have hC := tX10_idle hl0 a1 g hv
    try dsimp only [ztI, ztV, ztJ] at hC
    refine zh_after (v := some (.int w)) (rest := [.int (0 : Int32), .ref 72]) (A' := 0) (B' := 0) hG rfl rfl (by omega) (by omega) ?_ (zh_run hG [.int a1] zc_X10 DL_0 hC zy_X10_idle ⟨w943, w944⟩ w942 dL_idle_4 rfl (Nat.le_of_ble_eq_true rfl) (Nat.le_of_ble_eq_true rfl) rfl)
    show zK x 10 7 [(0, .ref 0), (1, .int a1), (2, .ref 72)] [.int w, .int (0 : Int32), .ref 72] zD g 0 0
    refine zh_if_eq (pc := 7) (tgt := 14) hG dL_idle_7 rfl (fun hc => ?_) (fun hc => ?_)
    · replace h := zif_t hc h
      refine zh_lconst (pc := 14) hG kl_0 dL_idle_14 ?_
      refine zh_last (pc := 15) hG DL_72 (zin_in (by decide)) dL_idle_15 ?_
      refine zh_goto (pc := 16) (tgt := 22) hG dL_idle_16 rfl ?_
      refine zh_iconst (pc := 22) hG kc_0 dL_idle_22 ?_
      obtain rfl := Option.some.inj h
      exact zh_iret (pc := 23) hG rfl rfl hk dL_idle_23
    · replace h := zif_f hc h
      refine zh_lconst (pc := 10) hG kl_1 dL_idle_10 ?_
      refine zh_goto (pc := 11) (tgt := 15) hG dL_idle_11 rfl ?_
      refine zh_last (pc := 15) hG DL_72 (zin_in (by decide)) dL_idle_15 ?_
      refine zh_goto (pc := 16) (tgt := 22) hG dL_idle_16 rfl ?_
      refine zh_iconst (pc := 22) hG kc_0 dL_idle_22 ?_
      obtain rfl := Option.some.inj h
      exact zh_iret (pc := 23) hG rfl rfl hk dL_idle_23
  · replace h := zel_r h
    have hC := tX10_idle hl0 a1 g hv
    try dsimp only [ztI, ztV, ztJ] at hC
    by_cases he0 : e = "java/lang/IndexOutOfBoundsException"
    · subst he0
      replace h := zif_t rfl h
      refine zh_afterX (rest := [.int (0 : Int32), .ref 72]) (A' := 0) (B' := 0) (E := "java/lang/IndexOutOfBoundsException") hG [] ⟨0, 16, 19, 19⟩ [] rfl (fun _ h => nomatch h) (by decide) (by decide) w827 (by decide) rfl rfl (by omega) (by omega) ?_ (zh_run hG [.int a1] zc_X10 DL_0 hC zy_X10_idle ⟨w943, w944⟩ w942 dL_idle_4 rfl (Nat.le_of_ble_eq_true rfl) (Nat.le_of_ble_eq_true rfl) rfl)
      refine zh_astore_n (pc := 19) (ls' := [(3, .ref 899), (0, .ref 0), (1, .int a1), (2, .ref 72)]) hG [0, 1, 2, 3] rfl (by decide) rfl dL_idle_19 ?_
      refine zh_iconst (pc := 20) hG kc_1 dL_idle_20 ?_
      obtain rfl := Option.some.inj h
      exact zh_iret (pc := 21) hG rfl rfl hk dL_idle_21
    replace h := zif_f he0 h
    cases h
theorem wcw_box : Cond.codeWith yL_box cL_box 5 (some .int) [(0, 10, 13, 21), (0, 10, 17, 19)] ∈ zT := zT_k4 232 rfl rfl
theorem zyH_box : Cond.codeWith yL_box cL_box 5 (some .int) [(0, 10, 13, 21), (0, 10, 17, 19)] ∈ zT ∧ Cond.initialized yL_box.cls ∈ zT ∧ (yL_box.cls ≠ "java/lang/invoke/MethodHandle" ∧ yL_box.cls ≠ "java/lang/invoke/VarHandle") ∧ (parseMethodDescriptor yL_box.desc).map (fun d => d.parameters.length) = some 4 ∧ 5 ≤ 31 := ⟨wcw_box, w0, ⟨by decide, by decide⟩, by decide +kernel, by decide⟩
noncomputable def nL_box (a1 : Int32) (a2 : Int32) (g : zS) : Option (Int32 × zS) :=
  (nX10_box a1 a2 g).bind fun v => zel2 v (fun w g2 => some ((0 : Int32), (zl g2 72 (0 : Int32).toNatClampNeg w.toInt64))) (fun e g2 => if e = "java/util/NoSuchElementException" then (some ((1 : Int32), g2)) else (if e = "java/lang/IndexOutOfBoundsException" then (some ((2 : Int32), g2)) else (none)))
set_option maxHeartbeats 400000 in
theorem tL_box {l : Launch} (hl0 : l.flags = flags0) (a1 : Int32) (a2 : Int32) (g : zS) {r : Int32 × zS} (h : nL_box a1 a2 g = some r) : zCx l yL_box (.codeWith yL_box cL_box 5 (some .int) [(0, 10, 13, 21), (0, 10, 17, 19)]) 64 (2 + (r.2.2.2.2 / 64 - g.2.2.2 / 64)) (12 + 2 * (r.2.2.2.2 - g.2.2.2)) [.ref 0, .int a1, .int a2, .ref 72] zD g (.inl (some (.int r.1)), zD, r.2) := by
  refine zCx_ofH hl0 rfl (Nat.le_of_ble_eq_true rfl) (fun x hG hxl hk => ?_)
  subst hxl
  have hG : zGH x cL_box 5 RL (some .int) [⟨0, 10, 13, 21⟩, ⟨0, 10, 17, 19⟩] := hG
  show zK x 64 0 [(0, .ref 0), (1, .int a1), (2, .int a2), (3, .ref 72)] [] zD g (2 + (r.2.2.2.2 / 64 - g.2.2.2 / 64)) (12 + 2 * (r.2.2.2.2 - g.2.2.2))
  unfold nL_box at h
  refine zh_aload_n (pc := 0) hG 3 rfl rfl dL_box_0 ?_
  refine zh_iconst (pc := 1) hG kc_0 dL_box_1 ?_
  refine zh_aload_n (pc := 2) hG 0 rfl rfl dL_box_2 ?_
  refine zh_iload_n (pc := 3) hG 1 rfl rfl dL_box_3 ?_
  refine zh_iload_n (pc := 4) hG 2 rfl rfl dL_box_4 ?_
  replace h := zbind h
  obtain ⟨⟨w | e, g2⟩, hv, h⟩ := h
  · replace h := zel2_l h
    obtain rfl := Option.some.inj h
    have hC := tX10_box hl0 a1 a2 g hv
    try dsimp only [ztI, ztV, ztJ] at hC
    refine zh_after (v := some (.int w)) (rest := [.int (0 : Int32), .ref 72]) (A' := 0) (B' := 0) hG rfl rfl (Nat.zero_add _).symm (Nat.zero_add _).symm ?_ (zh_run hG [.int a1, .int a2] zc_X10 DL_0 hC zy_X10_box ⟨w954, w955⟩ w953 dL_box_5 rfl (Nat.le_of_ble_eq_true rfl) (Nat.le_of_ble_eq_true rfl) rfl)
    show zK x 64 8 [(0, .ref 0), (1, .int a1), (2, .int a2), (3, .ref 72)] [.int w, .int (0 : Int32), .ref 72] zD g2 0 0
    refine zh_i2l (pc := 8) hG dL_box_8 ?_
    refine zh_last (pc := 9) hG DL_72 (zin_in (by decide)) dL_box_9 ?_
    refine zh_goto (pc := 10) (tgt := 21) hG dL_box_10 rfl ?_
    refine zh_iconst (pc := 21) hG kc_0 dL_box_21 ?_
    exact zh_iret (pc := 22) hG rfl rfl hk dL_box_22
  · replace h := zel2_r h
    have hC := tX10_box hl0 a1 a2 g hv
    try dsimp only [ztI, ztV, ztJ] at hC
    by_cases he0 : e = "java/util/NoSuchElementException"
    · subst he0
      replace h := zif_t rfl h
      obtain rfl := Option.some.inj h
      refine zh_afterX (rest := [.int (0 : Int32), .ref 72]) (A' := 0) (B' := 0) (E := "java/util/NoSuchElementException") hG [] ⟨0, 10, 13, 21⟩ [⟨0, 10, 17, 19⟩] rfl (fun _ h => nomatch h) (by decide) (by decide) w828 (by decide) rfl rfl (Nat.zero_add _).symm (Nat.zero_add _).symm ?_ (zh_run hG [.int a1, .int a2] zc_X10 DL_0 hC zy_X10_box ⟨w954, w955⟩ w953 dL_box_5 rfl (Nat.le_of_ble_eq_true rfl) (Nat.le_of_ble_eq_true rfl) rfl)
      refine zh_astore (pc := 13) (ls' := [(4, .ref 899), (0, .ref 0), (1, .int a1), (2, .int a2), (3, .ref 72)]) hG [0, 1, 2, 3, 4] (by decide) rfl dL_box_13 ?_
      refine zh_iconst (pc := 15) hG kc_1 dL_box_15 ?_
      exact zh_iret (pc := 16) hG rfl rfl hk dL_box_16
    replace h := zif_f he0 h
    by_cases he1 : e = "java/lang/IndexOutOfBoundsException"
    · subst he1
      replace h := zif_t rfl h
      obtain rfl := Option.some.inj h
      refine zh_afterX (rest := [.int (0 : Int32), .ref 72]) (A' := 0) (B' := 0) (E := "java/lang/IndexOutOfBoundsException") hG [⟨0, 10, 13, 21⟩] ⟨0, 10, 17, 19⟩ [] rfl (List.forall_mem_cons.mpr ⟨Or.inr ⟨by decide, "java/util/NoSuchElementException", by decide, by decide, w828⟩, (fun _ h => nomatch h)⟩) (by decide) (by decide) w827 (by decide) rfl rfl (Nat.zero_add _).symm (Nat.zero_add _).symm ?_ (zh_run hG [.int a1, .int a2] zc_X10 DL_0 hC zy_X10_box ⟨w954, w955⟩ w953 dL_box_5 rfl (Nat.le_of_ble_eq_true rfl) (Nat.le_of_ble_eq_true rfl) rfl)
      refine zh_astore (pc := 17) (ls' := [(4, .ref 899), (0, .ref 0), (1, .int a1), (2, .int a2), (3, .ref 72)]) hG [0, 1, 2, 3, 4] (by decide) rfl dL_box_17 ?_
      refine zh_iconst (pc := 19) hG kc_2 dL_box_19 ?_
      exact zh_iret (pc := 20) hG rfl rfl hk dL_box_20
    replace h := zif_f he1 h
    cases h
theorem wcw_tried : Cond.codeWith yL_tried cL_tried 4 (some .int) [(0, 9, 12, 13)] ∈ zT := zT_k5 5 rfl rfl
theorem zyH_tried : Cond.codeWith yL_tried cL_tried 4 (some .int) [(0, 9, 12, 13)] ∈ zT ∧ Cond.initialized yL_tried.cls ∈ zT ∧ (yL_tried.cls ≠ "java/lang/invoke/MethodHandle" ∧ yL_tried.cls ≠ "java/lang/invoke/VarHandle") ∧ (parseMethodDescriptor yL_tried.desc).map (fun d => d.parameters.length) = some 3 ∧ 4 ≤ 31 := ⟨wcw_tried, w0, ⟨by decide, by decide⟩, by decide +kernel, by decide⟩
noncomputable def nL_tried (a1 : Int32) (g : zS) : Option (Int32 × zS) :=
  (nX10_tried a1 g).bind fun v => zel v (fun w => some ((0 : Int32), (zl g 72 (0 : Int32).toNatClampNeg w.toInt64))) (fun e => if e = "java/lang/IllegalArgumentException" then (some ((1 : Int32), g)) else (none))
set_option maxHeartbeats 400000 in
theorem tL_tried {l : Launch} (hl0 : l.flags = flags0) (a1 : Int32) (g : zS) {r : Int32 × zS} (h : nL_tried a1 g = some r) : zCx l yL_tried (.codeWith yL_tried cL_tried 4 (some .int) [(0, 9, 12, 13)]) 9 1 6 [.ref 0, .int a1, .ref 72] zD g (.inl (some (.int r.1)), zD, r.2) := by
  refine zCx_ofH hl0 rfl (Nat.le_of_ble_eq_true rfl) (fun x hG hxl hk => ?_)
  subst hxl
  have hG : zGH x cL_tried 4 RL (some .int) [⟨0, 9, 12, 13⟩] := hG
  show zK x 9 0 [(0, .ref 0), (1, .int a1), (2, .ref 72)] [] zD g 1 6
  unfold nL_tried at h
  refine zh_aload_n (pc := 0) hG 2 rfl rfl dL_tried_0 ?_
  refine zh_iconst (pc := 1) hG kc_0 dL_tried_1 ?_
  refine zh_aload_n (pc := 2) hG 0 rfl rfl dL_tried_2 ?_
  refine zh_iload_n (pc := 3) hG 1 rfl rfl dL_tried_3 ?_
  replace h := zbind h
  obtain ⟨w | e, hv, h⟩ := h
  · replace h := zel_l h
    have hC := tX10_tried hl0 a1 g hv
    try dsimp only [ztI, ztV, ztJ] at hC
    refine zh_after (v := some (.int w)) (rest := [.int (0 : Int32), .ref 72]) (A' := 0) (B' := 0) hG rfl rfl (by omega) (by omega) ?_ (zh_run hG [.int a1] zc_X10 DL_0 hC zy_X10_tried ⟨w967, w968⟩ w966 dL_tried_4 rfl (Nat.le_of_ble_eq_true rfl) (Nat.le_of_ble_eq_true rfl) rfl)
    show zK x 9 7 [(0, .ref 0), (1, .int a1), (2, .ref 72)] [.int w, .int (0 : Int32), .ref 72] zD g 0 0
    refine zh_i2l (pc := 7) hG dL_tried_7 ?_
    refine zh_last (pc := 8) hG DL_72 (zin_in (by decide)) dL_tried_8 ?_
    refine zh_goto (pc := 9) (tgt := 15) hG dL_tried_9 rfl ?_
    refine zh_iconst (pc := 15) hG kc_0 dL_tried_15 ?_
    obtain rfl := Option.some.inj h
    exact zh_iret (pc := 16) hG rfl rfl hk dL_tried_16
  · replace h := zel_r h
    have hC := tX10_tried hl0 a1 g hv
    try dsimp only [ztI, ztV, ztJ] at hC
    by_cases he0 : e = "java/lang/IllegalArgumentException"
    · subst he0
      replace h := zif_t rfl h
      refine zh_afterX (rest := [.int (0 : Int32), .ref 72]) (A' := 0) (B' := 0) (E := "java/lang/IllegalArgumentException") hG [] ⟨0, 9, 12, 13⟩ [] rfl (fun _ h => nomatch h) (by decide) (by decide) w555 (by decide) rfl rfl (by omega) (by omega) ?_ (zh_run hG [.int a1] zc_X10 DL_0 hC zy_X10_tried ⟨w967, w968⟩ w966 dL_tried_4 rfl (Nat.le_of_ble_eq_true rfl) (Nat.le_of_ble_eq_true rfl) rfl)
      refine zh_astore_n (pc := 12) (ls' := [(3, .ref 899), (0, .ref 0), (1, .int a1), (2, .ref 72)]) hG [0, 1, 2, 3] rfl (by decide) rfl dL_tried_12 ?_
      refine zh_iconst (pc := 13) hG kc_1 dL_tried_13 ?_
      obtain rfl := Option.some.inj h
      exact zh_iret (pc := 14) hG rfl rfl hk dL_tried_14
    replace h := zif_f he0 h
    cases h
theorem wcw_answer : Cond.codeWith yL_answer cL_answer 5 (some .int) [(0, 10, 13, 19)] ∈ zT := zT_k5 22 rfl rfl
theorem zyH_answer : Cond.codeWith yL_answer cL_answer 5 (some .int) [(0, 10, 13, 19)] ∈ zT ∧ Cond.initialized yL_answer.cls ∈ zT ∧ (yL_answer.cls ≠ "java/lang/invoke/MethodHandle" ∧ yL_answer.cls ≠ "java/lang/invoke/VarHandle") ∧ (parseMethodDescriptor yL_answer.desc).map (fun d => d.parameters.length) = some 4 ∧ 5 ≤ 31 := ⟨wcw_answer, w0, ⟨by decide, by decide⟩, by decide +kernel, by decide⟩
noncomputable def nL_answer (a1 : Int32) (a2 : Int32) (g : zS) : Option (Int32 × zS) :=
  (nX10_answer a1 a2 g).bind fun v => zel v (fun w => some ((0 : Int32), (zl g 72 (0 : Int32).toNatClampNeg w.toInt64))) (fun e => if e = "java/lang/IndexOutOfBoundsException" then (some ((1 : Int32), g)) else (none))
set_option maxHeartbeats 400000 in
theorem tL_answer {l : Launch} (hl0 : l.flags = flags0) (a1 : Int32) (a2 : Int32) (g : zS) {r : Int32 × zS} (h : nL_answer a1 a2 g = some r) : zCx l yL_answer (.codeWith yL_answer cL_answer 5 (some .int) [(0, 10, 13, 19)]) 10 2 12 [.ref 0, .int a1, .int a2, .ref 72] zD g (.inl (some (.int r.1)), zD, r.2) := by
  refine zCx_ofH hl0 rfl (Nat.le_of_ble_eq_true rfl) (fun x hG hxl hk => ?_)
  subst hxl
  have hG : zGH x cL_answer 5 RL (some .int) [⟨0, 10, 13, 19⟩] := hG
  show zK x 10 0 [(0, .ref 0), (1, .int a1), (2, .int a2), (3, .ref 72)] [] zD g 2 12
  unfold nL_answer at h
  refine zh_aload_n (pc := 0) hG 3 rfl rfl dL_answer_0 ?_
  refine zh_iconst (pc := 1) hG kc_0 dL_answer_1 ?_
  refine zh_aload_n (pc := 2) hG 0 rfl rfl dL_answer_2 ?_
  refine zh_iload_n (pc := 3) hG 1 rfl rfl dL_answer_3 ?_
  refine zh_iload_n (pc := 4) hG 2 rfl rfl dL_answer_4 ?_
  replace h := zbind h
  obtain ⟨w | e, hv, h⟩ := h
  · replace h := zel_l h
    have hC := tX10_answer hl0 a1 a2 g hv
    try dsimp only [ztI, ztV, ztJ] at hC
    refine zh_after (v := some (.int w)) (rest := [.int (0 : Int32), .ref 72]) (A' := 0) (B' := 0) hG rfl rfl (by omega) (by omega) ?_ (zh_run hG [.int a1, .int a2] zc_X10 DL_0 hC zy_X10_answer ⟨w984, w985⟩ w983 dL_answer_5 rfl (Nat.le_of_ble_eq_true rfl) (Nat.le_of_ble_eq_true rfl) rfl)
    show zK x 10 8 [(0, .ref 0), (1, .int a1), (2, .int a2), (3, .ref 72)] [.int w, .int (0 : Int32), .ref 72] zD g 0 0
    refine zh_i2l (pc := 8) hG dL_answer_8 ?_
    refine zh_last (pc := 9) hG DL_72 (zin_in (by decide)) dL_answer_9 ?_
    refine zh_goto (pc := 10) (tgt := 17) hG dL_answer_10 rfl ?_
    refine zh_iconst (pc := 17) hG kc_0 dL_answer_17 ?_
    obtain rfl := Option.some.inj h
    exact zh_iret (pc := 18) hG rfl rfl hk dL_answer_18
  · replace h := zel_r h
    have hC := tX10_answer hl0 a1 a2 g hv
    try dsimp only [ztI, ztV, ztJ] at hC
    by_cases he0 : e = "java/lang/IndexOutOfBoundsException"
    · subst he0
      replace h := zif_t rfl h
      refine zh_afterX (rest := [.int (0 : Int32), .ref 72]) (A' := 0) (B' := 0) (E := "java/lang/IndexOutOfBoundsException") hG [] ⟨0, 10, 13, 19⟩ [] rfl (fun _ h => nomatch h) (by decide) (by decide) w827 (by decide) rfl rfl (by omega) (by omega) ?_ (zh_run hG [.int a1, .int a2] zc_X10 DL_0 hC zy_X10_answer ⟨w984, w985⟩ w983 dL_answer_5 rfl (Nat.le_of_ble_eq_true rfl) (Nat.le_of_ble_eq_true rfl) rfl)
      refine zh_astore (pc := 13) (ls' := [(4, .ref 899), (0, .ref 0), (1, .int a1), (2, .int a2), (3, .ref 72)]) hG [0, 1, 2, 3, 4] (by decide) rfl dL_answer_13 ?_
      refine zh_iconst (pc := 15) hG kc_1 dL_answer_15 ?_
      obtain rfl := Option.some.inj h
      exact zh_iret (pc := 16) hG rfl rfl hk dL_answer_16
    replace h := zif_f he0 h
    cases h
theorem wcw_tell : Cond.codeWith yL_tell cL_tell 6 (some .int) [(0, 12, 15, 19), (0, 12, 19, 13)] ∈ zT := zT_k5 38 rfl rfl
theorem zyH_tell : Cond.codeWith yL_tell cL_tell 6 (some .int) [(0, 12, 15, 19), (0, 12, 19, 13)] ∈ zT ∧ Cond.initialized yL_tell.cls ∈ zT ∧ (yL_tell.cls ≠ "java/lang/invoke/MethodHandle" ∧ yL_tell.cls ≠ "java/lang/invoke/VarHandle") ∧ (parseMethodDescriptor yL_tell.desc).map (fun d => d.parameters.length) = some 5 ∧ 6 ≤ 31 := ⟨wcw_tell, w0, ⟨by decide, by decide⟩, by decide +kernel, by decide⟩
noncomputable def nL_tell (a1 : Int32) (a2 : Int32) (a3 : Int32) (g : zS) : Option (Int32 × zS) :=
  (nX10_tell a1 a2 a3 g).bind fun v => zel2 v (fun w g2 => some ((0 : Int32), (zl g2 72 (0 : Int32).toNatClampNeg w.toInt64))) (fun e g2 => if e = "java/lang/IndexOutOfBoundsException" then (some ((1 : Int32), g2)) else (if e = "java/lang/IllegalArgumentException" then (some ((2 : Int32), g2)) else (none)))
set_option maxHeartbeats 400000 in
theorem tL_tell {l : Launch} (hl0 : l.flags = flags0) (a1 : Int32) (a2 : Int32) (a3 : Int32) (g : zS) {r : Int32 × zS} (h : nL_tell a1 a2 a3 g = some r) : zCx l yL_tell (.codeWith yL_tell cL_tell 6 (some .int) [(0, 12, 15, 19), (0, 12, 19, 13)]) 10 3 18 [.ref 0, .int a1, .int a2, .int a3, .ref 72] zD g (.inl (some (.int r.1)), zD, r.2) := by
  refine zCx_ofH hl0 rfl (Nat.le_of_ble_eq_true rfl) (fun x hG hxl hk => ?_)
  subst hxl
  have hG : zGH x cL_tell 6 RL (some .int) [⟨0, 12, 15, 19⟩, ⟨0, 12, 19, 13⟩] := hG
  show zK x 10 0 [(0, .ref 0), (1, .int a1), (2, .int a2), (3, .int a3), (4, .ref 72)] [] zD g 3 18
  unfold nL_tell at h
  refine zh_aload (pc := 0) hG 4 rfl dL_tell_0 ?_
  refine zh_iconst (pc := 2) hG kc_0 dL_tell_2 ?_
  refine zh_aload_n (pc := 3) hG 0 rfl rfl dL_tell_3 ?_
  refine zh_iload_n (pc := 4) hG 1 rfl rfl dL_tell_4 ?_
  refine zh_iload_n (pc := 5) hG 2 rfl rfl dL_tell_5 ?_
  refine zh_iload_n (pc := 6) hG 3 rfl rfl dL_tell_6 ?_
  replace h := zbind h
  obtain ⟨⟨w | e, g2⟩, hv, h⟩ := h
  · replace h := zel2_l h
    have hC := tX10_tell hl0 a1 a2 a3 g hv
    try dsimp only [ztI, ztV, ztJ] at hC
    refine zh_after (v := some (.int w)) (rest := [.int (0 : Int32), .ref 72]) (A' := 0) (B' := 0) hG rfl rfl (by omega) (by omega) ?_ (zh_run hG [.int a1, .int a2, .int a3] zc_X10 DL_0 hC zy_X10_tell ⟨w1000, w1001⟩ w999 dL_tell_7 rfl (Nat.le_of_ble_eq_true rfl) (Nat.le_of_ble_eq_true rfl) rfl)
    show zK x 10 10 [(0, .ref 0), (1, .int a1), (2, .int a2), (3, .int a3), (4, .ref 72)] [.int w, .int (0 : Int32), .ref 72] zD g2 0 0
    refine zh_i2l (pc := 10) hG dL_tell_10 ?_
    refine zh_last (pc := 11) hG DL_72 (zin_in (by decide)) dL_tell_11 ?_
    refine zh_goto (pc := 12) (tgt := 23) hG dL_tell_12 rfl ?_
    refine zh_iconst (pc := 23) hG kc_0 dL_tell_23 ?_
    obtain rfl := Option.some.inj h
    exact zh_iret (pc := 24) hG rfl rfl hk dL_tell_24
  · replace h := zel2_r h
    have hC := tX10_tell hl0 a1 a2 a3 g hv
    try dsimp only [ztI, ztV, ztJ] at hC
    by_cases he0 : e = "java/lang/IndexOutOfBoundsException"
    · subst he0
      replace h := zif_t rfl h
      refine zh_afterX (rest := [.int (0 : Int32), .ref 72]) (A' := 0) (B' := 0) (E := "java/lang/IndexOutOfBoundsException") hG [] ⟨0, 12, 15, 19⟩ [⟨0, 12, 19, 13⟩] rfl (fun _ h => nomatch h) (by decide) (by decide) w827 (by decide) rfl rfl (by omega) (by omega) ?_ (zh_run hG [.int a1, .int a2, .int a3] zc_X10 DL_0 hC zy_X10_tell ⟨w1000, w1001⟩ w999 dL_tell_7 rfl (Nat.le_of_ble_eq_true rfl) (Nat.le_of_ble_eq_true rfl) rfl)
      refine zh_astore (pc := 15) (ls' := [(5, .ref 899), (0, .ref 0), (1, .int a1), (2, .int a2), (3, .int a3), (4, .ref 72)]) hG [0, 1, 2, 3, 4, 5] (by decide) rfl dL_tell_15 ?_
      refine zh_iconst (pc := 17) hG kc_1 dL_tell_17 ?_
      obtain rfl := Option.some.inj h
      exact zh_iret (pc := 18) hG rfl rfl hk dL_tell_18
    replace h := zif_f he0 h
    by_cases he1 : e = "java/lang/IllegalArgumentException"
    · subst he1
      replace h := zif_t rfl h
      refine zh_afterX (rest := [.int (0 : Int32), .ref 72]) (A' := 0) (B' := 0) (E := "java/lang/IllegalArgumentException") hG [⟨0, 12, 15, 19⟩] ⟨0, 12, 19, 13⟩ [] rfl (List.forall_mem_cons.mpr ⟨Or.inr ⟨by decide, "java/lang/IndexOutOfBoundsException", by decide, by decide, w827⟩, (fun _ h => nomatch h)⟩) (by decide) (by decide) w555 (by decide) rfl rfl (by omega) (by omega) ?_ (zh_run hG [.int a1, .int a2, .int a3] zc_X10 DL_0 hC zy_X10_tell ⟨w1000, w1001⟩ w999 dL_tell_7 rfl (Nat.le_of_ble_eq_true rfl) (Nat.le_of_ble_eq_true rfl) rfl)
      refine zh_astore (pc := 19) (ls' := [(5, .ref 899), (0, .ref 0), (1, .int a1), (2, .int a2), (3, .int a3), (4, .ref 72)]) hG [0, 1, 2, 3, 4, 5] (by decide) rfl dL_tell_19 ?_
      refine zh_iconst (pc := 21) hG kc_2 dL_tell_21 ?_
      obtain rfl := Option.some.inj h
      exact zh_iret (pc := 22) hG rfl rfl hk dL_tell_22
    replace h := zif_f he1 h
    cases h
theorem wcw_copy : Cond.codeWith yL_copy cL_copy 4 (some .int) [(0, 9, 12, 19), (0, 9, 15, 57)] ∈ zT := zT_k5 54 rfl rfl
theorem zyH_copy : Cond.codeWith yL_copy cL_copy 4 (some .int) [(0, 9, 12, 19), (0, 9, 15, 57)] ∈ zT ∧ Cond.initialized yL_copy.cls ∈ zT ∧ (yL_copy.cls ≠ "java/lang/invoke/MethodHandle" ∧ yL_copy.cls ≠ "java/lang/invoke/VarHandle") ∧ (parseMethodDescriptor yL_copy.desc).map (fun d => d.parameters.length) = some 3 ∧ 4 ≤ 31 := ⟨wcw_copy, w0, ⟨by decide, by decide⟩, by decide +kernel, by decide⟩
noncomputable def nL_copy (a1 : Int32) (g : zS) : Option (Int32 × zS) :=
  (nX10_copy a1 g).bind fun v => zel2 v (fun w g2 => some ((0 : Int32), (zl g2 72 (0 : Int32).toNatClampNeg w.toInt64))) (fun e g2 => if e = "java/lang/IndexOutOfBoundsException" then (some ((1 : Int32), g2)) else (if e = "java/lang/IllegalStateException" then (some ((2 : Int32), g2)) else (none)))
set_option maxHeartbeats 400000 in
theorem tL_copy {l : Launch} (hl0 : l.flags = flags0) (a1 : Int32) (g : zS) {r : Int32 × zS} (h : nL_copy a1 g = some r) : zCx l yL_copy (.codeWith yL_copy cL_copy 4 (some .int) [(0, 9, 12, 19), (0, 9, 15, 57)]) 10 2 12 [.ref 0, .int a1, .ref 72] zD g (.inl (some (.int r.1)), zD, r.2) := by
  refine zCx_ofH hl0 rfl (Nat.le_of_ble_eq_true rfl) (fun x hG hxl hk => ?_)
  subst hxl
  have hG : zGH x cL_copy 4 RL (some .int) [⟨0, 9, 12, 19⟩, ⟨0, 9, 15, 57⟩] := hG
  show zK x 10 0 [(0, .ref 0), (1, .int a1), (2, .ref 72)] [] zD g 2 12
  unfold nL_copy at h
  refine zh_aload_n (pc := 0) hG 2 rfl rfl dL_copy_0 ?_
  refine zh_iconst (pc := 1) hG kc_0 dL_copy_1 ?_
  refine zh_aload_n (pc := 2) hG 0 rfl rfl dL_copy_2 ?_
  refine zh_iload_n (pc := 3) hG 1 rfl rfl dL_copy_3 ?_
  replace h := zbind h
  obtain ⟨⟨w | e, g2⟩, hv, h⟩ := h
  · replace h := zel2_l h
    have hC := tX10_copy hl0 a1 g hv
    try dsimp only [ztI, ztV, ztJ] at hC
    refine zh_after (v := some (.int w)) (rest := [.int (0 : Int32), .ref 72]) (A' := 0) (B' := 0) hG rfl rfl (by omega) (by omega) ?_ (zh_run hG [.int a1] zc_X10 DL_0 hC zy_X10_copy ⟨w1017, w1018⟩ w1016 dL_copy_4 rfl (Nat.le_of_ble_eq_true rfl) (Nat.le_of_ble_eq_true rfl) rfl)
    show zK x 10 7 [(0, .ref 0), (1, .int a1), (2, .ref 72)] [.int w, .int (0 : Int32), .ref 72] zD g2 0 0
    refine zh_i2l (pc := 7) hG dL_copy_7 ?_
    refine zh_last (pc := 8) hG DL_72 (zin_in (by decide)) dL_copy_8 ?_
    refine zh_goto (pc := 9) (tgt := 18) hG dL_copy_9 rfl ?_
    refine zh_iconst (pc := 18) hG kc_0 dL_copy_18 ?_
    obtain rfl := Option.some.inj h
    exact zh_iret (pc := 19) hG rfl rfl hk dL_copy_19
  · replace h := zel2_r h
    have hC := tX10_copy hl0 a1 g hv
    try dsimp only [ztI, ztV, ztJ] at hC
    by_cases he0 : e = "java/lang/IndexOutOfBoundsException"
    · subst he0
      replace h := zif_t rfl h
      refine zh_afterX (rest := [.int (0 : Int32), .ref 72]) (A' := 0) (B' := 0) (E := "java/lang/IndexOutOfBoundsException") hG [] ⟨0, 9, 12, 19⟩ [⟨0, 9, 15, 57⟩] rfl (fun _ h => nomatch h) (by decide) (by decide) w827 (by decide) rfl rfl (by omega) (by omega) ?_ (zh_run hG [.int a1] zc_X10 DL_0 hC zy_X10_copy ⟨w1017, w1018⟩ w1016 dL_copy_4 rfl (Nat.le_of_ble_eq_true rfl) (Nat.le_of_ble_eq_true rfl) rfl)
      refine zh_astore_n (pc := 12) (ls' := [(3, .ref 899), (0, .ref 0), (1, .int a1), (2, .ref 72)]) hG [0, 1, 2, 3] rfl (by decide) rfl dL_copy_12 ?_
      refine zh_iconst (pc := 13) hG kc_1 dL_copy_13 ?_
      obtain rfl := Option.some.inj h
      exact zh_iret (pc := 14) hG rfl rfl hk dL_copy_14
    replace h := zif_f he0 h
    by_cases he1 : e = "java/lang/IllegalStateException"
    · subst he1
      replace h := zif_t rfl h
      refine zh_afterX (rest := [.int (0 : Int32), .ref 72]) (A' := 0) (B' := 0) (E := "java/lang/IllegalStateException") hG [⟨0, 9, 12, 19⟩] ⟨0, 9, 15, 57⟩ [] rfl (List.forall_mem_cons.mpr ⟨Or.inr ⟨by decide, "java/lang/IndexOutOfBoundsException", by decide, by decide, w827⟩, (fun _ h => nomatch h)⟩) (by decide) (by decide) w1015 (by decide) rfl rfl (by omega) (by omega) ?_ (zh_run hG [.int a1] zc_X10 DL_0 hC zy_X10_copy ⟨w1017, w1018⟩ w1016 dL_copy_4 rfl (Nat.le_of_ble_eq_true rfl) (Nat.le_of_ble_eq_true rfl) rfl)
      refine zh_astore_n (pc := 15) (ls' := [(3, .ref 899), (0, .ref 0), (1, .int a1), (2, .ref 72)]) hG [0, 1, 2, 3] rfl (by decide) rfl dL_copy_15 ?_
      refine zh_iconst (pc := 16) hG kc_2 dL_copy_16 ?_
      obtain rfl := Option.some.inj h
      exact zh_iret (pc := 17) hG rfl rfl hk dL_copy_17
    replace h := zif_f he1 h
    cases h
theorem wcw_drop : Cond.codeWith yL_drop cL_drop 3 (some .int) [(0, 8, 11, 57)] ∈ zT := zT_k5 77 rfl rfl
theorem zyH_drop : Cond.codeWith yL_drop cL_drop 3 (some .int) [(0, 8, 11, 57)] ∈ zT ∧ Cond.initialized yL_drop.cls ∈ zT ∧ (yL_drop.cls ≠ "java/lang/invoke/MethodHandle" ∧ yL_drop.cls ≠ "java/lang/invoke/VarHandle") ∧ (parseMethodDescriptor yL_drop.desc).map (fun d => d.parameters.length) = some 2 ∧ 3 ≤ 31 := ⟨wcw_drop, w0, ⟨by decide, by decide⟩, by decide +kernel, by decide⟩
noncomputable def nL_drop (g : zS) : Option (Int32 × zS) :=
  (nX10_drop g).bind fun v => zel2 v (fun w g2 => some ((0 : Int32), (zl g2 72 (0 : Int32).toNatClampNeg w.toInt64))) (fun e g2 => if e = "java/lang/IllegalStateException" then (some ((1 : Int32), g2)) else (none))
set_option maxHeartbeats 400000 in
theorem tL_drop {l : Launch} (hl0 : l.flags = flags0) (g : zS) {r : Int32 × zS} (h : nL_drop  g = some r) : zCx l yL_drop (.codeWith yL_drop cL_drop 3 (some .int) [(0, 8, 11, 57)]) 9 1 6 [.ref 0, .ref 72] zD g (.inl (some (.int r.1)), zD, r.2) := by
  refine zCx_ofH hl0 rfl (Nat.le_of_ble_eq_true rfl) (fun x hG hxl hk => ?_)
  subst hxl
  have hG : zGH x cL_drop 3 RL (some .int) [⟨0, 8, 11, 57⟩] := hG
  show zK x 9 0 [(0, .ref 0), (1, .ref 72)] [] zD g 1 6
  unfold nL_drop at h
  refine zh_aload_n (pc := 0) hG 1 rfl rfl dL_drop_0 ?_
  refine zh_iconst (pc := 1) hG kc_0 dL_drop_1 ?_
  refine zh_aload_n (pc := 2) hG 0 rfl rfl dL_drop_2 ?_
  replace h := zbind h
  obtain ⟨⟨w | e, g2⟩, hv, h⟩ := h
  · replace h := zel2_l h
    have hC := tX10_drop hl0  g hv
    try dsimp only [ztI, ztV, ztJ] at hC
    refine zh_after (v := some (.int w)) (rest := [.int (0 : Int32), .ref 72]) (A' := 0) (B' := 0) hG rfl rfl (by omega) (by omega) ?_ (zh_run hG [] zc_X10 DL_0 hC zy_X10_drop ⟨w1039, w1040⟩ w1038 dL_drop_3 rfl (Nat.le_of_ble_eq_true rfl) (Nat.le_of_ble_eq_true rfl) rfl)
    show zK x 9 6 [(0, .ref 0), (1, .ref 72)] [.int w, .int (0 : Int32), .ref 72] zD g2 0 0
    refine zh_i2l (pc := 6) hG dL_drop_6 ?_
    refine zh_last (pc := 7) hG DL_72 (zin_in (by decide)) dL_drop_7 ?_
    refine zh_goto (pc := 8) (tgt := 14) hG dL_drop_8 rfl ?_
    refine zh_iconst (pc := 14) hG kc_0 dL_drop_14 ?_
    obtain rfl := Option.some.inj h
    exact zh_iret (pc := 15) hG rfl rfl hk dL_drop_15
  · replace h := zel2_r h
    have hC := tX10_drop hl0  g hv
    try dsimp only [ztI, ztV, ztJ] at hC
    by_cases he0 : e = "java/lang/IllegalStateException"
    · subst he0
      replace h := zif_t rfl h
      refine zh_afterX (rest := [.int (0 : Int32), .ref 72]) (A' := 0) (B' := 0) (E := "java/lang/IllegalStateException") hG [] ⟨0, 8, 11, 57⟩ [] rfl (fun _ h => nomatch h) (by decide) (by decide) w1015 (by decide) rfl rfl (by omega) (by omega) ?_ (zh_run hG [] zc_X10 DL_0 hC zy_X10_drop ⟨w1039, w1040⟩ w1038 dL_drop_3 rfl (Nat.le_of_ble_eq_true rfl) (Nat.le_of_ble_eq_true rfl) rfl)
      refine zh_astore_n (pc := 11) (ls' := [(2, .ref 899), (0, .ref 0), (1, .ref 72)]) hG [0, 1, 2] rfl (by decide) rfl dL_drop_11 ?_
      refine zh_iconst (pc := 12) hG kc_1 dL_drop_12 ?_
      obtain rfl := Option.some.inj h
      exact zh_iret (pc := 13) hG rfl rfl hk dL_drop_13
    replace h := zif_f he0 h
    cases h
theorem wcw_fails : Cond.codeWith yL_fails cL_fails 4 (some .int) [(0, 9, 12, 19)] ∈ zT := zT_k5 84 rfl rfl
theorem zyH_fails : Cond.codeWith yL_fails cL_fails 4 (some .int) [(0, 9, 12, 19)] ∈ zT ∧ Cond.initialized yL_fails.cls ∈ zT ∧ (yL_fails.cls ≠ "java/lang/invoke/MethodHandle" ∧ yL_fails.cls ≠ "java/lang/invoke/VarHandle") ∧ (parseMethodDescriptor yL_fails.desc).map (fun d => d.parameters.length) = some 3 ∧ 4 ≤ 31 := ⟨wcw_fails, w0, ⟨by decide, by decide⟩, by decide +kernel, by decide⟩
noncomputable def nL_fails (a1 : Int32) (g : zS) : Option (Int32 × zS) :=
  (nX10_fails a1 g).bind fun v => zel v (fun w => some ((0 : Int32), (zl g 72 (0 : Int32).toNatClampNeg w.toInt64))) (fun e => if e = "java/lang/IndexOutOfBoundsException" then (some ((1 : Int32), g)) else (none))
set_option maxHeartbeats 400000 in
theorem tL_fails {l : Launch} (hl0 : l.flags = flags0) (a1 : Int32) (g : zS) {r : Int32 × zS} (h : nL_fails a1 g = some r) : zCx l yL_fails (.codeWith yL_fails cL_fails 4 (some .int) [(0, 9, 12, 19)]) 10 1 6 [.ref 0, .int a1, .ref 72] zD g (.inl (some (.int r.1)), zD, r.2) := by
  refine zCx_ofH hl0 rfl (Nat.le_of_ble_eq_true rfl) (fun x hG hxl hk => ?_)
  subst hxl
  have hG : zGH x cL_fails 4 RL (some .int) [⟨0, 9, 12, 19⟩] := hG
  show zK x 10 0 [(0, .ref 0), (1, .int a1), (2, .ref 72)] [] zD g 1 6
  unfold nL_fails at h
  refine zh_aload_n (pc := 0) hG 2 rfl rfl dL_fails_0 ?_
  refine zh_iconst (pc := 1) hG kc_0 dL_fails_1 ?_
  refine zh_aload_n (pc := 2) hG 0 rfl rfl dL_fails_2 ?_
  refine zh_iload_n (pc := 3) hG 1 rfl rfl dL_fails_3 ?_
  replace h := zbind h
  obtain ⟨w | e, hv, h⟩ := h
  · replace h := zel_l h
    have hC := tX10_fails hl0 a1 g hv
    try dsimp only [ztI, ztV, ztJ] at hC
    refine zh_after (v := some (.int w)) (rest := [.int (0 : Int32), .ref 72]) (A' := 0) (B' := 0) hG rfl rfl (by omega) (by omega) ?_ (zh_run hG [.int a1] zc_X10 DL_0 hC zy_X10_fails ⟨w1046, w1047⟩ w1045 dL_fails_4 rfl (Nat.le_of_ble_eq_true rfl) (Nat.le_of_ble_eq_true rfl) rfl)
    show zK x 10 7 [(0, .ref 0), (1, .int a1), (2, .ref 72)] [.int w, .int (0 : Int32), .ref 72] zD g 0 0
    refine zh_i2l (pc := 7) hG dL_fails_7 ?_
    refine zh_last (pc := 8) hG DL_72 (zin_in (by decide)) dL_fails_8 ?_
    refine zh_goto (pc := 9) (tgt := 15) hG dL_fails_9 rfl ?_
    refine zh_iconst (pc := 15) hG kc_0 dL_fails_15 ?_
    obtain rfl := Option.some.inj h
    exact zh_iret (pc := 16) hG rfl rfl hk dL_fails_16
  · replace h := zel_r h
    have hC := tX10_fails hl0 a1 g hv
    try dsimp only [ztI, ztV, ztJ] at hC
    by_cases he0 : e = "java/lang/IndexOutOfBoundsException"
    · subst he0
      replace h := zif_t rfl h
      refine zh_afterX (rest := [.int (0 : Int32), .ref 72]) (A' := 0) (B' := 0) (E := "java/lang/IndexOutOfBoundsException") hG [] ⟨0, 9, 12, 19⟩ [] rfl (fun _ h => nomatch h) (by decide) (by decide) w827 (by decide) rfl rfl (by omega) (by omega) ?_ (zh_run hG [.int a1] zc_X10 DL_0 hC zy_X10_fails ⟨w1046, w1047⟩ w1045 dL_fails_4 rfl (Nat.le_of_ble_eq_true rfl) (Nat.le_of_ble_eq_true rfl) rfl)
      refine zh_astore_n (pc := 12) (ls' := [(3, .ref 899), (0, .ref 0), (1, .int a1), (2, .ref 72)]) hG [0, 1, 2, 3] rfl (by decide) rfl dL_fails_12 ?_
      refine zh_iconst (pc := 13) hG kc_1 dL_fails_13 ?_
      obtain rfl := Option.some.inj h
      exact zh_iret (pc := 14) hG rfl rfl hk dL_fails_14
    replace h := zif_f he0 h
    cases h
theorem wcw_within : Cond.codeWith yL_within cL_within 5 (some .int) [(0, 10, 13, 19), (0, 10, 17, 57)] ∈ zT := zT_k5 91 rfl rfl
theorem zyH_within : Cond.codeWith yL_within cL_within 5 (some .int) [(0, 10, 13, 19), (0, 10, 17, 57)] ∈ zT ∧ Cond.initialized yL_within.cls ∈ zT ∧ (yL_within.cls ≠ "java/lang/invoke/MethodHandle" ∧ yL_within.cls ≠ "java/lang/invoke/VarHandle") ∧ (parseMethodDescriptor yL_within.desc).map (fun d => d.parameters.length) = some 4 ∧ 5 ≤ 31 := ⟨wcw_within, w0, ⟨by decide, by decide⟩, by decide +kernel, by decide⟩
noncomputable def nL_within (a1 : Int32) (a2 : Int32) (g : zS) : Option (Int32 × zS) :=
  (nX10_within a1 a2 g).bind fun v => zel2 v (fun w g2 => some ((0 : Int32), (zl g2 72 (0 : Int32).toNatClampNeg w.toInt64))) (fun e g2 => if e = "java/lang/IndexOutOfBoundsException" then (some ((1 : Int32), g2)) else (if e = "java/lang/IllegalStateException" then (some ((2 : Int32), g2)) else (none)))
set_option maxHeartbeats 400000 in
theorem tL_within {l : Launch} (hl0 : l.flags = flags0) (a1 : Int32) (a2 : Int32) (g : zS) {r : Int32 × zS} (h : nL_within a1 a2 g = some r) : zCx l yL_within (.codeWith yL_within cL_within 5 (some .int) [(0, 10, 13, 19), (0, 10, 17, 57)]) 64 (2 + (r.2.2.2.2 / 64 - g.2.2.2 / 64)) (12 + 2 * (r.2.2.2.2 - g.2.2.2)) [.ref 0, .int a1, .int a2, .ref 72] zD g (.inl (some (.int r.1)), zD, r.2) := by
  refine zCx_ofH hl0 rfl (Nat.le_of_ble_eq_true rfl) (fun x hG hxl hk => ?_)
  subst hxl
  have hG : zGH x cL_within 5 RL (some .int) [⟨0, 10, 13, 19⟩, ⟨0, 10, 17, 57⟩] := hG
  show zK x 64 0 [(0, .ref 0), (1, .int a1), (2, .int a2), (3, .ref 72)] [] zD g (2 + (r.2.2.2.2 / 64 - g.2.2.2 / 64)) (12 + 2 * (r.2.2.2.2 - g.2.2.2))
  unfold nL_within at h
  refine zh_aload_n (pc := 0) hG 3 rfl rfl dL_within_0 ?_
  refine zh_iconst (pc := 1) hG kc_0 dL_within_1 ?_
  refine zh_aload_n (pc := 2) hG 0 rfl rfl dL_within_2 ?_
  refine zh_iload_n (pc := 3) hG 1 rfl rfl dL_within_3 ?_
  refine zh_iload_n (pc := 4) hG 2 rfl rfl dL_within_4 ?_
  replace h := zbind h
  obtain ⟨⟨w | e, g2⟩, hv, h⟩ := h
  · replace h := zel2_l h
    obtain rfl := Option.some.inj h
    have hC := tX10_within hl0 a1 a2 g hv
    try dsimp only [ztI, ztV, ztJ] at hC
    refine zh_after (v := some (.int w)) (rest := [.int (0 : Int32), .ref 72]) (A' := 0) (B' := 0) hG rfl rfl (Nat.zero_add _).symm (Nat.zero_add _).symm ?_ (zh_run hG [.int a1, .int a2] zc_X10 DL_0 hC zy_X10_within ⟨w1053, w1054⟩ w1052 dL_within_5 rfl (Nat.le_of_ble_eq_true rfl) (Nat.le_of_ble_eq_true rfl) rfl)
    show zK x 64 8 [(0, .ref 0), (1, .int a1), (2, .int a2), (3, .ref 72)] [.int w, .int (0 : Int32), .ref 72] zD g2 0 0
    refine zh_i2l (pc := 8) hG dL_within_8 ?_
    refine zh_last (pc := 9) hG DL_72 (zin_in (by decide)) dL_within_9 ?_
    refine zh_goto (pc := 10) (tgt := 21) hG dL_within_10 rfl ?_
    refine zh_iconst (pc := 21) hG kc_0 dL_within_21 ?_
    exact zh_iret (pc := 22) hG rfl rfl hk dL_within_22
  · replace h := zel2_r h
    have hC := tX10_within hl0 a1 a2 g hv
    try dsimp only [ztI, ztV, ztJ] at hC
    by_cases he0 : e = "java/lang/IndexOutOfBoundsException"
    · subst he0
      replace h := zif_t rfl h
      obtain rfl := Option.some.inj h
      refine zh_afterX (rest := [.int (0 : Int32), .ref 72]) (A' := 0) (B' := 0) (E := "java/lang/IndexOutOfBoundsException") hG [] ⟨0, 10, 13, 19⟩ [⟨0, 10, 17, 57⟩] rfl (fun _ h => nomatch h) (by decide) (by decide) w827 (by decide) rfl rfl (Nat.zero_add _).symm (Nat.zero_add _).symm ?_ (zh_run hG [.int a1, .int a2] zc_X10 DL_0 hC zy_X10_within ⟨w1053, w1054⟩ w1052 dL_within_5 rfl (Nat.le_of_ble_eq_true rfl) (Nat.le_of_ble_eq_true rfl) rfl)
      refine zh_astore (pc := 13) (ls' := [(4, .ref 899), (0, .ref 0), (1, .int a1), (2, .int a2), (3, .ref 72)]) hG [0, 1, 2, 3, 4] (by decide) rfl dL_within_13 ?_
      refine zh_iconst (pc := 15) hG kc_1 dL_within_15 ?_
      exact zh_iret (pc := 16) hG rfl rfl hk dL_within_16
    replace h := zif_f he0 h
    by_cases he1 : e = "java/lang/IllegalStateException"
    · subst he1
      replace h := zif_t rfl h
      obtain rfl := Option.some.inj h
      refine zh_afterX (rest := [.int (0 : Int32), .ref 72]) (A' := 0) (B' := 0) (E := "java/lang/IllegalStateException") hG [⟨0, 10, 13, 19⟩] ⟨0, 10, 17, 57⟩ [] rfl (List.forall_mem_cons.mpr ⟨Or.inr ⟨by decide, "java/lang/IndexOutOfBoundsException", by decide, by decide, w827⟩, (fun _ h => nomatch h)⟩) (by decide) (by decide) w1015 (by decide) rfl rfl (Nat.zero_add _).symm (Nat.zero_add _).symm ?_ (zh_run hG [.int a1, .int a2] zc_X10 DL_0 hC zy_X10_within ⟨w1053, w1054⟩ w1052 dL_within_5 rfl (Nat.le_of_ble_eq_true rfl) (Nat.le_of_ble_eq_true rfl) rfl)
      refine zh_astore (pc := 17) (ls' := [(4, .ref 899), (0, .ref 0), (1, .int a1), (2, .int a2), (3, .ref 72)]) hG [0, 1, 2, 3, 4] (by decide) rfl dL_within_17 ?_
      refine zh_iconst (pc := 19) hG kc_2 dL_within_19 ?_
      exact zh_iret (pc := 20) hG rfl rfl hk dL_within_20
    replace h := zif_f he1 h
    cases h
theorem wcw_may : Cond.codeWith yL_may cL_may 5 (some .int) [(0, 10, 13, 19), (0, 10, 17, 57)] ∈ zT := zT_k5 113 rfl rfl
theorem zyH_may : Cond.codeWith yL_may cL_may 5 (some .int) [(0, 10, 13, 19), (0, 10, 17, 57)] ∈ zT ∧ Cond.initialized yL_may.cls ∈ zT ∧ (yL_may.cls ≠ "java/lang/invoke/MethodHandle" ∧ yL_may.cls ≠ "java/lang/invoke/VarHandle") ∧ (parseMethodDescriptor yL_may.desc).map (fun d => d.parameters.length) = some 4 ∧ 5 ≤ 31 := ⟨wcw_may, w0, ⟨by decide, by decide⟩, by decide +kernel, by decide⟩
noncomputable def nL_may (a1 : Int32) (a2 : Int32) (g : zS) : Option (Int32 × zS) :=
  (nX10_may a1 a2 g).bind fun v => zel v (fun w => some ((0 : Int32), (zl g 72 (0 : Int32).toNatClampNeg w.toInt64))) (fun e => if e = "java/lang/IndexOutOfBoundsException" then (some ((1 : Int32), g)) else (if e = "java/lang/IllegalStateException" then (some ((2 : Int32), g)) else (none)))
set_option maxHeartbeats 400000 in
theorem tL_may {l : Launch} (hl0 : l.flags = flags0) (a1 : Int32) (a2 : Int32) (g : zS) {r : Int32 × zS} (h : nL_may a1 a2 g = some r) : zCx l yL_may (.codeWith yL_may cL_may 5 (some .int) [(0, 10, 13, 19), (0, 10, 17, 57)]) 10 3 18 [.ref 0, .int a1, .int a2, .ref 72] zD g (.inl (some (.int r.1)), zD, r.2) := by
  refine zCx_ofH hl0 rfl (Nat.le_of_ble_eq_true rfl) (fun x hG hxl hk => ?_)
  subst hxl
  have hG : zGH x cL_may 5 RL (some .int) [⟨0, 10, 13, 19⟩, ⟨0, 10, 17, 57⟩] := hG
  show zK x 10 0 [(0, .ref 0), (1, .int a1), (2, .int a2), (3, .ref 72)] [] zD g 3 18
  unfold nL_may at h
  refine zh_aload_n (pc := 0) hG 3 rfl rfl dL_may_0 ?_
  refine zh_iconst (pc := 1) hG kc_0 dL_may_1 ?_
  refine zh_aload_n (pc := 2) hG 0 rfl rfl dL_may_2 ?_
  refine zh_iload_n (pc := 3) hG 1 rfl rfl dL_may_3 ?_
  refine zh_iload_n (pc := 4) hG 2 rfl rfl dL_may_4 ?_
  replace h := zbind h
  obtain ⟨w | e, hv, h⟩ := h
  · replace h := zel_l h
    have hC := tX10_may hl0 a1 a2 g hv
    try dsimp only [ztI, ztV, ztJ] at hC
    refine zh_after (v := some (.int w)) (rest := [.int (0 : Int32), .ref 72]) (A' := 0) (B' := 0) hG rfl rfl (by omega) (by omega) ?_ (zh_run hG [.int a1, .int a2] zc_X10 DL_0 hC zy_X10_may ⟨w1075, w1076⟩ w1074 dL_may_5 rfl (Nat.le_of_ble_eq_true rfl) (Nat.le_of_ble_eq_true rfl) rfl)
    show zK x 10 8 [(0, .ref 0), (1, .int a1), (2, .int a2), (3, .ref 72)] [.int w, .int (0 : Int32), .ref 72] zD g 0 0
    refine zh_i2l (pc := 8) hG dL_may_8 ?_
    refine zh_last (pc := 9) hG DL_72 (zin_in (by decide)) dL_may_9 ?_
    refine zh_goto (pc := 10) (tgt := 21) hG dL_may_10 rfl ?_
    refine zh_iconst (pc := 21) hG kc_0 dL_may_21 ?_
    obtain rfl := Option.some.inj h
    exact zh_iret (pc := 22) hG rfl rfl hk dL_may_22
  · replace h := zel_r h
    have hC := tX10_may hl0 a1 a2 g hv
    try dsimp only [ztI, ztV, ztJ] at hC
    by_cases he0 : e = "java/lang/IndexOutOfBoundsException"
    · subst he0
      replace h := zif_t rfl h
      refine zh_afterX (rest := [.int (0 : Int32), .ref 72]) (A' := 0) (B' := 0) (E := "java/lang/IndexOutOfBoundsException") hG [] ⟨0, 10, 13, 19⟩ [⟨0, 10, 17, 57⟩] rfl (fun _ h => nomatch h) (by decide) (by decide) w827 (by decide) rfl rfl (by omega) (by omega) ?_ (zh_run hG [.int a1, .int a2] zc_X10 DL_0 hC zy_X10_may ⟨w1075, w1076⟩ w1074 dL_may_5 rfl (Nat.le_of_ble_eq_true rfl) (Nat.le_of_ble_eq_true rfl) rfl)
      refine zh_astore (pc := 13) (ls' := [(4, .ref 899), (0, .ref 0), (1, .int a1), (2, .int a2), (3, .ref 72)]) hG [0, 1, 2, 3, 4] (by decide) rfl dL_may_13 ?_
      refine zh_iconst (pc := 15) hG kc_1 dL_may_15 ?_
      obtain rfl := Option.some.inj h
      exact zh_iret (pc := 16) hG rfl rfl hk dL_may_16
    replace h := zif_f he0 h
    by_cases he1 : e = "java/lang/IllegalStateException"
    · subst he1
      replace h := zif_t rfl h
      refine zh_afterX (rest := [.int (0 : Int32), .ref 72]) (A' := 0) (B' := 0) (E := "java/lang/IllegalStateException") hG [⟨0, 10, 13, 19⟩] ⟨0, 10, 17, 57⟩ [] rfl (List.forall_mem_cons.mpr ⟨Or.inr ⟨by decide, "java/lang/IndexOutOfBoundsException", by decide, by decide, w827⟩, (fun _ h => nomatch h)⟩) (by decide) (by decide) w1015 (by decide) rfl rfl (by omega) (by omega) ?_ (zh_run hG [.int a1, .int a2] zc_X10 DL_0 hC zy_X10_may ⟨w1075, w1076⟩ w1074 dL_may_5 rfl (Nat.le_of_ble_eq_true rfl) (Nat.le_of_ble_eq_true rfl) rfl)
      refine zh_astore (pc := 17) (ls' := [(4, .ref 899), (0, .ref 0), (1, .int a1), (2, .int a2), (3, .ref 72)]) hG [0, 1, 2, 3, 4] (by decide) rfl dL_may_17 ?_
      refine zh_iconst (pc := 19) hG kc_2 dL_may_19 ?_
      obtain rfl := Option.some.inj h
      exact zh_iret (pc := 20) hG rfl rfl hk dL_may_20
    replace h := zif_f he1 h
    cases h
theorem wcw_likely : Cond.codeWith yL_likely cL_likely 5 (some .int) [(0, 10, 13, 19), (0, 10, 17, 57)] ∈ zT := zT_k5 128 rfl rfl
theorem zyH_likely : Cond.codeWith yL_likely cL_likely 5 (some .int) [(0, 10, 13, 19), (0, 10, 17, 57)] ∈ zT ∧ Cond.initialized yL_likely.cls ∈ zT ∧ (yL_likely.cls ≠ "java/lang/invoke/MethodHandle" ∧ yL_likely.cls ≠ "java/lang/invoke/VarHandle") ∧ (parseMethodDescriptor yL_likely.desc).map (fun d => d.parameters.length) = some 4 ∧ 5 ≤ 31 := ⟨wcw_likely, w0, ⟨by decide, by decide⟩, by decide +kernel, by decide⟩
noncomputable def nL_likely (a1 : Int32) (a2 : Int32) (g : zS) : Option (Int32 × zS) :=
  (nX10_likely a1 a2 g).bind fun v => zel v (fun w => some ((0 : Int32), (zl g 72 (0 : Int32).toNatClampNeg w.toInt64))) (fun e => if e = "java/lang/IndexOutOfBoundsException" then (some ((1 : Int32), g)) else (if e = "java/lang/IllegalStateException" then (some ((2 : Int32), g)) else (none)))
set_option maxHeartbeats 400000 in
theorem tL_likely {l : Launch} (hl0 : l.flags = flags0) (a1 : Int32) (a2 : Int32) (g : zS) {r : Int32 × zS} (h : nL_likely a1 a2 g = some r) : zCx l yL_likely (.codeWith yL_likely cL_likely 5 (some .int) [(0, 10, 13, 19), (0, 10, 17, 57)]) 10 3 18 [.ref 0, .int a1, .int a2, .ref 72] zD g (.inl (some (.int r.1)), zD, r.2) := by
  refine zCx_ofH hl0 rfl (Nat.le_of_ble_eq_true rfl) (fun x hG hxl hk => ?_)
  subst hxl
  have hG : zGH x cL_likely 5 RL (some .int) [⟨0, 10, 13, 19⟩, ⟨0, 10, 17, 57⟩] := hG
  show zK x 10 0 [(0, .ref 0), (1, .int a1), (2, .int a2), (3, .ref 72)] [] zD g 3 18
  unfold nL_likely at h
  refine zh_aload_n (pc := 0) hG 3 rfl rfl dL_likely_0 ?_
  refine zh_iconst (pc := 1) hG kc_0 dL_likely_1 ?_
  refine zh_aload_n (pc := 2) hG 0 rfl rfl dL_likely_2 ?_
  refine zh_iload_n (pc := 3) hG 1 rfl rfl dL_likely_3 ?_
  refine zh_iload_n (pc := 4) hG 2 rfl rfl dL_likely_4 ?_
  replace h := zbind h
  obtain ⟨w | e, hv, h⟩ := h
  · replace h := zel_l h
    have hC := tX10_likely hl0 a1 a2 g hv
    try dsimp only [ztI, ztV, ztJ] at hC
    refine zh_after (v := some (.int w)) (rest := [.int (0 : Int32), .ref 72]) (A' := 0) (B' := 0) hG rfl rfl (by omega) (by omega) ?_ (zh_run hG [.int a1, .int a2] zc_X10 DL_0 hC zy_X10_likely ⟨w1090, w1091⟩ w1089 dL_likely_5 rfl (Nat.le_of_ble_eq_true rfl) (Nat.le_of_ble_eq_true rfl) rfl)
    show zK x 10 8 [(0, .ref 0), (1, .int a1), (2, .int a2), (3, .ref 72)] [.int w, .int (0 : Int32), .ref 72] zD g 0 0
    refine zh_i2l (pc := 8) hG dL_likely_8 ?_
    refine zh_last (pc := 9) hG DL_72 (zin_in (by decide)) dL_likely_9 ?_
    refine zh_goto (pc := 10) (tgt := 21) hG dL_likely_10 rfl ?_
    refine zh_iconst (pc := 21) hG kc_0 dL_likely_21 ?_
    obtain rfl := Option.some.inj h
    exact zh_iret (pc := 22) hG rfl rfl hk dL_likely_22
  · replace h := zel_r h
    have hC := tX10_likely hl0 a1 a2 g hv
    try dsimp only [ztI, ztV, ztJ] at hC
    by_cases he0 : e = "java/lang/IndexOutOfBoundsException"
    · subst he0
      replace h := zif_t rfl h
      refine zh_afterX (rest := [.int (0 : Int32), .ref 72]) (A' := 0) (B' := 0) (E := "java/lang/IndexOutOfBoundsException") hG [] ⟨0, 10, 13, 19⟩ [⟨0, 10, 17, 57⟩] rfl (fun _ h => nomatch h) (by decide) (by decide) w827 (by decide) rfl rfl (by omega) (by omega) ?_ (zh_run hG [.int a1, .int a2] zc_X10 DL_0 hC zy_X10_likely ⟨w1090, w1091⟩ w1089 dL_likely_5 rfl (Nat.le_of_ble_eq_true rfl) (Nat.le_of_ble_eq_true rfl) rfl)
      refine zh_astore (pc := 13) (ls' := [(4, .ref 899), (0, .ref 0), (1, .int a1), (2, .int a2), (3, .ref 72)]) hG [0, 1, 2, 3, 4] (by decide) rfl dL_likely_13 ?_
      refine zh_iconst (pc := 15) hG kc_1 dL_likely_15 ?_
      obtain rfl := Option.some.inj h
      exact zh_iret (pc := 16) hG rfl rfl hk dL_likely_16
    replace h := zif_f he0 h
    by_cases he1 : e = "java/lang/IllegalStateException"
    · subst he1
      replace h := zif_t rfl h
      refine zh_afterX (rest := [.int (0 : Int32), .ref 72]) (A' := 0) (B' := 0) (E := "java/lang/IllegalStateException") hG [⟨0, 10, 13, 19⟩] ⟨0, 10, 17, 57⟩ [] rfl (List.forall_mem_cons.mpr ⟨Or.inr ⟨by decide, "java/lang/IndexOutOfBoundsException", by decide, by decide, w827⟩, (fun _ h => nomatch h)⟩) (by decide) (by decide) w1015 (by decide) rfl rfl (by omega) (by omega) ?_ (zh_run hG [.int a1, .int a2] zc_X10 DL_0 hC zy_X10_likely ⟨w1090, w1091⟩ w1089 dL_likely_5 rfl (Nat.le_of_ble_eq_true rfl) (Nat.le_of_ble_eq_true rfl) rfl)
      refine zh_astore (pc := 17) (ls' := [(4, .ref 899), (0, .ref 0), (1, .int a1), (2, .int a2), (3, .ref 72)]) hG [0, 1, 2, 3, 4] (by decide) rfl dL_likely_17 ?_
      refine zh_iconst (pc := 19) hG kc_2 dL_likely_19 ?_
      obtain rfl := Option.some.inj h
      exact zh_iret (pc := 20) hG rfl rfl hk dL_likely_20
    replace h := zif_f he1 h
    cases h
theorem wcw_blame : Cond.codeWith yL_blame cL_blame 4 (some .int) [(0, 9, 12, 19), (0, 9, 15, 57)] ∈ zT := zT_k5 153 rfl rfl
theorem zyH_blame : Cond.codeWith yL_blame cL_blame 4 (some .int) [(0, 9, 12, 19), (0, 9, 15, 57)] ∈ zT ∧ Cond.initialized yL_blame.cls ∈ zT ∧ (yL_blame.cls ≠ "java/lang/invoke/MethodHandle" ∧ yL_blame.cls ≠ "java/lang/invoke/VarHandle") ∧ (parseMethodDescriptor yL_blame.desc).map (fun d => d.parameters.length) = some 3 ∧ 4 ≤ 31 := ⟨wcw_blame, w0, ⟨by decide, by decide⟩, by decide +kernel, by decide⟩
noncomputable def nL_blame (a1 : Int32) (g : zS) : Option (Int32 × zS) :=
  (nX10_blame a1 g).bind fun v => zel2 v (fun w g2 => some ((0 : Int32), (zl g2 72 (0 : Int32).toNatClampNeg w.toInt64))) (fun e g2 => if e = "java/lang/IndexOutOfBoundsException" then (some ((1 : Int32), g2)) else (if e = "java/lang/IllegalStateException" then (some ((2 : Int32), g2)) else (none)))
set_option maxHeartbeats 400000 in
theorem tL_blame {l : Launch} (hl0 : l.flags = flags0) (a1 : Int32) (g : zS) {r : Int32 × zS} (h : nL_blame a1 g = some r) : zCx l yL_blame (.codeWith yL_blame cL_blame 4 (some .int) [(0, 9, 12, 19), (0, 9, 15, 57)]) 65 (2 + (r.2.2.2.2 / 64 - g.2.2.2 / 64)) (12 + 2 * (r.2.2.2.2 - g.2.2.2)) [.ref 0, .int a1, .ref 72] zD g (.inl (some (.int r.1)), zD, r.2) := by
  refine zCx_ofH hl0 rfl (Nat.le_of_ble_eq_true rfl) (fun x hG hxl hk => ?_)
  subst hxl
  have hG : zGH x cL_blame 4 RL (some .int) [⟨0, 9, 12, 19⟩, ⟨0, 9, 15, 57⟩] := hG
  show zK x 65 0 [(0, .ref 0), (1, .int a1), (2, .ref 72)] [] zD g (2 + (r.2.2.2.2 / 64 - g.2.2.2 / 64)) (12 + 2 * (r.2.2.2.2 - g.2.2.2))
  unfold nL_blame at h
  refine zh_aload_n (pc := 0) hG 2 rfl rfl dL_blame_0 ?_
  refine zh_iconst (pc := 1) hG kc_0 dL_blame_1 ?_
  refine zh_aload_n (pc := 2) hG 0 rfl rfl dL_blame_2 ?_
  refine zh_iload_n (pc := 3) hG 1 rfl rfl dL_blame_3 ?_
  replace h := zbind h
  obtain ⟨⟨w | e, g2⟩, hv, h⟩ := h
  · replace h := zel2_l h
    obtain rfl := Option.some.inj h
    have hC := tX10_blame hl0 a1 g hv
    try dsimp only [ztI, ztV, ztJ] at hC
    refine zh_after (v := some (.int w)) (rest := [.int (0 : Int32), .ref 72]) (A' := 0) (B' := 0) hG rfl rfl (Nat.zero_add _).symm (Nat.zero_add _).symm ?_ (zh_run hG [.int a1] zc_X10 DL_0 hC zy_X10_blame ⟨w1115, w1116⟩ w1114 dL_blame_4 rfl (Nat.le_of_ble_eq_true rfl) (Nat.le_of_ble_eq_true rfl) rfl)
    show zK x 65 7 [(0, .ref 0), (1, .int a1), (2, .ref 72)] [.int w, .int (0 : Int32), .ref 72] zD g2 0 0
    refine zh_i2l (pc := 7) hG dL_blame_7 ?_
    refine zh_last (pc := 8) hG DL_72 (zin_in (by decide)) dL_blame_8 ?_
    refine zh_goto (pc := 9) (tgt := 18) hG dL_blame_9 rfl ?_
    refine zh_iconst (pc := 18) hG kc_0 dL_blame_18 ?_
    exact zh_iret (pc := 19) hG rfl rfl hk dL_blame_19
  · replace h := zel2_r h
    have hC := tX10_blame hl0 a1 g hv
    try dsimp only [ztI, ztV, ztJ] at hC
    by_cases he0 : e = "java/lang/IndexOutOfBoundsException"
    · subst he0
      replace h := zif_t rfl h
      obtain rfl := Option.some.inj h
      refine zh_afterX (rest := [.int (0 : Int32), .ref 72]) (A' := 0) (B' := 0) (E := "java/lang/IndexOutOfBoundsException") hG [] ⟨0, 9, 12, 19⟩ [⟨0, 9, 15, 57⟩] rfl (fun _ h => nomatch h) (by decide) (by decide) w827 (by decide) rfl rfl (Nat.zero_add _).symm (Nat.zero_add _).symm ?_ (zh_run hG [.int a1] zc_X10 DL_0 hC zy_X10_blame ⟨w1115, w1116⟩ w1114 dL_blame_4 rfl (Nat.le_of_ble_eq_true rfl) (Nat.le_of_ble_eq_true rfl) rfl)
      refine zh_astore_n (pc := 12) (ls' := [(3, .ref 899), (0, .ref 0), (1, .int a1), (2, .ref 72)]) hG [0, 1, 2, 3] rfl (by decide) rfl dL_blame_12 ?_
      refine zh_iconst (pc := 13) hG kc_1 dL_blame_13 ?_
      exact zh_iret (pc := 14) hG rfl rfl hk dL_blame_14
    replace h := zif_f he0 h
    by_cases he1 : e = "java/lang/IllegalStateException"
    · subst he1
      replace h := zif_t rfl h
      obtain rfl := Option.some.inj h
      refine zh_afterX (rest := [.int (0 : Int32), .ref 72]) (A' := 0) (B' := 0) (E := "java/lang/IllegalStateException") hG [⟨0, 9, 12, 19⟩] ⟨0, 9, 15, 57⟩ [] rfl (List.forall_mem_cons.mpr ⟨Or.inr ⟨by decide, "java/lang/IndexOutOfBoundsException", by decide, by decide, w827⟩, (fun _ h => nomatch h)⟩) (by decide) (by decide) w1015 (by decide) rfl rfl (Nat.zero_add _).symm (Nat.zero_add _).symm ?_ (zh_run hG [.int a1] zc_X10 DL_0 hC zy_X10_blame ⟨w1115, w1116⟩ w1114 dL_blame_4 rfl (Nat.le_of_ble_eq_true rfl) (Nat.le_of_ble_eq_true rfl) rfl)
      refine zh_astore_n (pc := 15) (ls' := [(3, .ref 899), (0, .ref 0), (1, .int a1), (2, .ref 72)]) hG [0, 1, 2, 3] rfl (by decide) rfl dL_blame_15 ?_
      refine zh_iconst (pc := 16) hG kc_2 dL_blame_16 ?_
      exact zh_iret (pc := 17) hG rfl rfl hk dL_blame_17
    replace h := zif_f he1 h
    cases h
theorem wcw_mends : Cond.codeWith yL_mends cL_mends 5 (some .int) [(0, 17, 20, 19), (0, 17, 24, 13)] ∈ zT := zT_k5 168 rfl rfl
theorem zyH_mends : Cond.codeWith yL_mends cL_mends 5 (some .int) [(0, 17, 20, 19), (0, 17, 24, 13)] ∈ zT ∧ Cond.initialized yL_mends.cls ∈ zT ∧ (yL_mends.cls ≠ "java/lang/invoke/MethodHandle" ∧ yL_mends.cls ≠ "java/lang/invoke/VarHandle") ∧ (parseMethodDescriptor yL_mends.desc).map (fun d => d.parameters.length) = some 4 ∧ 5 ≤ 31 := ⟨wcw_mends, w0, ⟨by decide, by decide⟩, by decide +kernel, by decide⟩
noncomputable def nL_mends (a1 : Int32) (a2 : Int32) (g : zS) : Option (Int32 × zS) :=
  (nX10_mends a1 a2 g).bind fun v => zel v (fun w => if w = 0 then (some ((0 : Int32), (zl g 72 (0 : Int32).toNatClampNeg (0 : Int64)))) else (some ((0 : Int32), (zl g 72 (0 : Int32).toNatClampNeg (1 : Int64))))) (fun e => if e = "java/lang/IndexOutOfBoundsException" then (some ((1 : Int32), g)) else (if e = "java/lang/IllegalArgumentException" then (some ((2 : Int32), g)) else (none)))
set_option maxHeartbeats 400000 in
theorem tL_mends {l : Launch} (hl0 : l.flags = flags0) (a1 : Int32) (a2 : Int32) (g : zS) {r : Int32 × zS} (h : nL_mends a1 a2 g = some r) : zCx l yL_mends (.codeWith yL_mends cL_mends 5 (some .int) [(0, 17, 20, 19), (0, 17, 24, 13)]) 10 2 12 [.ref 0, .int a1, .int a2, .ref 72] zD g (.inl (some (.int r.1)), zD, r.2) := by
  refine zCx_ofH hl0 rfl (Nat.le_of_ble_eq_true rfl) (fun x hG hxl hk => ?_)
  subst hxl
  have hG : zGH x cL_mends 5 RL (some .int) [⟨0, 17, 20, 19⟩, ⟨0, 17, 24, 13⟩] := hG
  show zK x 10 0 [(0, .ref 0), (1, .int a1), (2, .int a2), (3, .ref 72)] [] zD g 2 12
  unfold nL_mends at h
  refine zh_aload_n (pc := 0) hG 3 rfl rfl dL_mends_0 ?_
  refine zh_iconst (pc := 1) hG kc_0 dL_mends_1 ?_
  refine zh_aload_n (pc := 2) hG 0 rfl rfl dL_mends_2 ?_
  refine zh_iload_n (pc := 3) hG 1 rfl rfl dL_mends_3 ?_
  refine zh_iload_n (pc := 4) hG 2 rfl rfl dL_mends_4 ?_
  replace h := zbind h
  obtain ⟨w | e, hv, h⟩ := h
  · replace h := zel_l h
    have hC := tX10_mends hl0 a1 a2 g hv
    try dsimp only [ztI, ztV, ztJ] at hC
    refine zh_after (v := some (.int w)) (rest := [.int (0 : Int32), .ref 72]) (A' := 0) (B' := 0) hG rfl rfl (by omega) (by omega) ?_ (zh_run hG [.int a1, .int a2] zc_X10 DL_0 hC zy_X10_mends ⟨w1130, w1131⟩ w1129 dL_mends_5 rfl (Nat.le_of_ble_eq_true rfl) (Nat.le_of_ble_eq_true rfl) rfl)
    show zK x 10 8 [(0, .ref 0), (1, .int a1), (2, .int a2), (3, .ref 72)] [.int w, .int (0 : Int32), .ref 72] zD g 0 0
    refine zh_if_eq (pc := 8) (tgt := 15) hG dL_mends_8 rfl (fun hc => ?_) (fun hc => ?_)
    · replace h := zif_t hc h
      refine zh_lconst (pc := 15) hG kl_0 dL_mends_15 ?_
      refine zh_last (pc := 16) hG DL_72 (zin_in (by decide)) dL_mends_16 ?_
      refine zh_goto (pc := 17) (tgt := 28) hG dL_mends_17 rfl ?_
      refine zh_iconst (pc := 28) hG kc_0 dL_mends_28 ?_
      obtain rfl := Option.some.inj h
      exact zh_iret (pc := 29) hG rfl rfl hk dL_mends_29
    · replace h := zif_f hc h
      refine zh_lconst (pc := 11) hG kl_1 dL_mends_11 ?_
      refine zh_goto (pc := 12) (tgt := 16) hG dL_mends_12 rfl ?_
      refine zh_last (pc := 16) hG DL_72 (zin_in (by decide)) dL_mends_16 ?_
      refine zh_goto (pc := 17) (tgt := 28) hG dL_mends_17 rfl ?_
      refine zh_iconst (pc := 28) hG kc_0 dL_mends_28 ?_
      obtain rfl := Option.some.inj h
      exact zh_iret (pc := 29) hG rfl rfl hk dL_mends_29
  · replace h := zel_r h
    have hC := tX10_mends hl0 a1 a2 g hv
    try dsimp only [ztI, ztV, ztJ] at hC
    by_cases he0 : e = "java/lang/IndexOutOfBoundsException"
    · subst he0
      replace h := zif_t rfl h
      refine zh_afterX (rest := [.int (0 : Int32), .ref 72]) (A' := 0) (B' := 0) (E := "java/lang/IndexOutOfBoundsException") hG [] ⟨0, 17, 20, 19⟩ [⟨0, 17, 24, 13⟩] rfl (fun _ h => nomatch h) (by decide) (by decide) w827 (by decide) rfl rfl (by omega) (by omega) ?_ (zh_run hG [.int a1, .int a2] zc_X10 DL_0 hC zy_X10_mends ⟨w1130, w1131⟩ w1129 dL_mends_5 rfl (Nat.le_of_ble_eq_true rfl) (Nat.le_of_ble_eq_true rfl) rfl)
      refine zh_astore (pc := 20) (ls' := [(4, .ref 899), (0, .ref 0), (1, .int a1), (2, .int a2), (3, .ref 72)]) hG [0, 1, 2, 3, 4] (by decide) rfl dL_mends_20 ?_
      refine zh_iconst (pc := 22) hG kc_1 dL_mends_22 ?_
      obtain rfl := Option.some.inj h
      exact zh_iret (pc := 23) hG rfl rfl hk dL_mends_23
    replace h := zif_f he0 h
    by_cases he1 : e = "java/lang/IllegalArgumentException"
    · subst he1
      replace h := zif_t rfl h
      refine zh_afterX (rest := [.int (0 : Int32), .ref 72]) (A' := 0) (B' := 0) (E := "java/lang/IllegalArgumentException") hG [⟨0, 17, 20, 19⟩] ⟨0, 17, 24, 13⟩ [] rfl (List.forall_mem_cons.mpr ⟨Or.inr ⟨by decide, "java/lang/IndexOutOfBoundsException", by decide, by decide, w827⟩, (fun _ h => nomatch h)⟩) (by decide) (by decide) w555 (by decide) rfl rfl (by omega) (by omega) ?_ (zh_run hG [.int a1, .int a2] zc_X10 DL_0 hC zy_X10_mends ⟨w1130, w1131⟩ w1129 dL_mends_5 rfl (Nat.le_of_ble_eq_true rfl) (Nat.le_of_ble_eq_true rfl) rfl)
      refine zh_astore (pc := 24) (ls' := [(4, .ref 899), (0, .ref 0), (1, .int a1), (2, .int a2), (3, .ref 72)]) hG [0, 1, 2, 3, 4] (by decide) rfl dL_mends_24 ?_
      refine zh_iconst (pc := 26) hG kc_2 dL_mends_26 ?_
      obtain rfl := Option.some.inj h
      exact zh_iret (pc := 27) hG rfl rfl hk dL_mends_27
    replace h := zif_f he1 h
    cases h
theorem wcw_ways : Cond.codeWith yL_ways cL_ways 5 (some .int) [(0, 10, 13, 19), (0, 10, 17, 13)] ∈ zT := zT_k5 180 rfl rfl
theorem zyH_ways : Cond.codeWith yL_ways cL_ways 5 (some .int) [(0, 10, 13, 19), (0, 10, 17, 13)] ∈ zT ∧ Cond.initialized yL_ways.cls ∈ zT ∧ (yL_ways.cls ≠ "java/lang/invoke/MethodHandle" ∧ yL_ways.cls ≠ "java/lang/invoke/VarHandle") ∧ (parseMethodDescriptor yL_ways.desc).map (fun d => d.parameters.length) = some 4 ∧ 5 ≤ 31 := ⟨wcw_ways, w0, ⟨by decide, by decide⟩, by decide +kernel, by decide⟩
noncomputable def nL_ways (a1 : Int32) (a2 : Int32) (g : zS) : Option (Int32 × zS) :=
  (nX10_ways a1 a2 g).bind fun v => zel2 v (fun w g2 => some ((0 : Int32), (zl g2 72 (0 : Int32).toNatClampNeg w.toInt64))) (fun e g2 => if e = "java/lang/IndexOutOfBoundsException" then (some ((1 : Int32), g2)) else (if e = "java/lang/IllegalArgumentException" then (some ((2 : Int32), g2)) else (none)))
set_option maxHeartbeats 400000 in
theorem tL_ways {l : Launch} (hl0 : l.flags = flags0) (a1 : Int32) (a2 : Int32) (g : zS) {r : Int32 × zS} (h : nL_ways a1 a2 g = some r) : zCx l yL_ways (.codeWith yL_ways cL_ways 5 (some .int) [(0, 10, 13, 19), (0, 10, 17, 13)]) 10 2 12 [.ref 0, .int a1, .int a2, .ref 72] zD g (.inl (some (.int r.1)), zD, r.2) := by
  refine zCx_ofH hl0 rfl (Nat.le_of_ble_eq_true rfl) (fun x hG hxl hk => ?_)
  subst hxl
  have hG : zGH x cL_ways 5 RL (some .int) [⟨0, 10, 13, 19⟩, ⟨0, 10, 17, 13⟩] := hG
  show zK x 10 0 [(0, .ref 0), (1, .int a1), (2, .int a2), (3, .ref 72)] [] zD g 2 12
  unfold nL_ways at h
  refine zh_aload_n (pc := 0) hG 3 rfl rfl dL_ways_0 ?_
  refine zh_iconst (pc := 1) hG kc_0 dL_ways_1 ?_
  refine zh_aload_n (pc := 2) hG 0 rfl rfl dL_ways_2 ?_
  refine zh_iload_n (pc := 3) hG 1 rfl rfl dL_ways_3 ?_
  refine zh_iload_n (pc := 4) hG 2 rfl rfl dL_ways_4 ?_
  replace h := zbind h
  obtain ⟨⟨w | e, g2⟩, hv, h⟩ := h
  · replace h := zel2_l h
    have hC := tX10_ways hl0 a1 a2 g hv
    try dsimp only [ztI, ztV, ztJ] at hC
    refine zh_after (v := some (.int w)) (rest := [.int (0 : Int32), .ref 72]) (A' := 0) (B' := 0) hG rfl rfl (by omega) (by omega) ?_ (zh_run hG [.int a1, .int a2] zc_X10 DL_0 hC zy_X10_ways ⟨w1142, w1143⟩ w1141 dL_ways_5 rfl (Nat.le_of_ble_eq_true rfl) (Nat.le_of_ble_eq_true rfl) rfl)
    show zK x 10 8 [(0, .ref 0), (1, .int a1), (2, .int a2), (3, .ref 72)] [.int w, .int (0 : Int32), .ref 72] zD g2 0 0
    refine zh_i2l (pc := 8) hG dL_ways_8 ?_
    refine zh_last (pc := 9) hG DL_72 (zin_in (by decide)) dL_ways_9 ?_
    refine zh_goto (pc := 10) (tgt := 21) hG dL_ways_10 rfl ?_
    refine zh_iconst (pc := 21) hG kc_0 dL_ways_21 ?_
    obtain rfl := Option.some.inj h
    exact zh_iret (pc := 22) hG rfl rfl hk dL_ways_22
  · replace h := zel2_r h
    have hC := tX10_ways hl0 a1 a2 g hv
    try dsimp only [ztI, ztV, ztJ] at hC
    by_cases he0 : e = "java/lang/IndexOutOfBoundsException"
    · subst he0
      replace h := zif_t rfl h
      refine zh_afterX (rest := [.int (0 : Int32), .ref 72]) (A' := 0) (B' := 0) (E := "java/lang/IndexOutOfBoundsException") hG [] ⟨0, 10, 13, 19⟩ [⟨0, 10, 17, 13⟩] rfl (fun _ h => nomatch h) (by decide) (by decide) w827 (by decide) rfl rfl (by omega) (by omega) ?_ (zh_run hG [.int a1, .int a2] zc_X10 DL_0 hC zy_X10_ways ⟨w1142, w1143⟩ w1141 dL_ways_5 rfl (Nat.le_of_ble_eq_true rfl) (Nat.le_of_ble_eq_true rfl) rfl)
      refine zh_astore (pc := 13) (ls' := [(4, .ref 899), (0, .ref 0), (1, .int a1), (2, .int a2), (3, .ref 72)]) hG [0, 1, 2, 3, 4] (by decide) rfl dL_ways_13 ?_
      refine zh_iconst (pc := 15) hG kc_1 dL_ways_15 ?_
      obtain rfl := Option.some.inj h
      exact zh_iret (pc := 16) hG rfl rfl hk dL_ways_16
    replace h := zif_f he0 h
    by_cases he1 : e = "java/lang/IllegalArgumentException"
    · subst he1
      replace h := zif_t rfl h
      refine zh_afterX (rest := [.int (0 : Int32), .ref 72]) (A' := 0) (B' := 0) (E := "java/lang/IllegalArgumentException") hG [⟨0, 10, 13, 19⟩] ⟨0, 10, 17, 13⟩ [] rfl (List.forall_mem_cons.mpr ⟨Or.inr ⟨by decide, "java/lang/IndexOutOfBoundsException", by decide, by decide, w827⟩, (fun _ h => nomatch h)⟩) (by decide) (by decide) w555 (by decide) rfl rfl (by omega) (by omega) ?_ (zh_run hG [.int a1, .int a2] zc_X10 DL_0 hC zy_X10_ways ⟨w1142, w1143⟩ w1141 dL_ways_5 rfl (Nat.le_of_ble_eq_true rfl) (Nat.le_of_ble_eq_true rfl) rfl)
      refine zh_astore (pc := 17) (ls' := [(4, .ref 899), (0, .ref 0), (1, .int a1), (2, .int a2), (3, .ref 72)]) hG [0, 1, 2, 3, 4] (by decide) rfl dL_ways_17 ?_
      refine zh_iconst (pc := 19) hG kc_2 dL_ways_19 ?_
      obtain rfl := Option.some.inj h
      exact zh_iret (pc := 20) hG rfl rfl hk dL_ways_20
    replace h := zif_f he1 h
    cases h
theorem wcw_least : Cond.codeWith yL_least cL_least 5 (some .int) [(0, 10, 13, 19), (0, 10, 17, 21)] ∈ zT := zT_k5 191 rfl rfl
theorem zyH_least : Cond.codeWith yL_least cL_least 5 (some .int) [(0, 10, 13, 19), (0, 10, 17, 21)] ∈ zT ∧ Cond.initialized yL_least.cls ∈ zT ∧ (yL_least.cls ≠ "java/lang/invoke/MethodHandle" ∧ yL_least.cls ≠ "java/lang/invoke/VarHandle") ∧ (parseMethodDescriptor yL_least.desc).map (fun d => d.parameters.length) = some 4 ∧ 5 ≤ 31 := ⟨wcw_least, w0, ⟨by decide, by decide⟩, by decide +kernel, by decide⟩
noncomputable def nL_least (a1 : Int32) (a2 : Int32) (g : zS) : Option (Int32 × zS) :=
  (nX10_least a1 a2 g).bind fun v => zel v (fun w => some ((0 : Int32), (zl g 72 (0 : Int32).toNatClampNeg w.toInt64))) (fun e => if e = "java/lang/IndexOutOfBoundsException" then (some ((1 : Int32), g)) else (if e = "java/util/NoSuchElementException" then (some ((2 : Int32), g)) else (none)))
set_option maxHeartbeats 400000 in
theorem tL_least {l : Launch} (hl0 : l.flags = flags0) (a1 : Int32) (a2 : Int32) (g : zS) {r : Int32 × zS} (h : nL_least a1 a2 g = some r) : zCx l yL_least (.codeWith yL_least cL_least 5 (some .int) [(0, 10, 13, 19), (0, 10, 17, 21)]) 10 2 12 [.ref 0, .int a1, .int a2, .ref 72] zD g (.inl (some (.int r.1)), zD, r.2) := by
  refine zCx_ofH hl0 rfl (Nat.le_of_ble_eq_true rfl) (fun x hG hxl hk => ?_)
  subst hxl
  have hG : zGH x cL_least 5 RL (some .int) [⟨0, 10, 13, 19⟩, ⟨0, 10, 17, 21⟩] := hG
  show zK x 10 0 [(0, .ref 0), (1, .int a1), (2, .int a2), (3, .ref 72)] [] zD g 2 12
  unfold nL_least at h
  refine zh_aload_n (pc := 0) hG 3 rfl rfl dL_least_0 ?_
  refine zh_iconst (pc := 1) hG kc_0 dL_least_1 ?_
  refine zh_aload_n (pc := 2) hG 0 rfl rfl dL_least_2 ?_
  refine zh_iload_n (pc := 3) hG 1 rfl rfl dL_least_3 ?_
  refine zh_iload_n (pc := 4) hG 2 rfl rfl dL_least_4 ?_
  replace h := zbind h
  obtain ⟨w | e, hv, h⟩ := h
  · replace h := zel_l h
    have hC := tX10_least hl0 a1 a2 g hv
    try dsimp only [ztI, ztV, ztJ] at hC
    refine zh_after (v := some (.int w)) (rest := [.int (0 : Int32), .ref 72]) (A' := 0) (B' := 0) hG rfl rfl (by omega) (by omega) ?_ (zh_run hG [.int a1, .int a2] zc_X10 DL_0 hC zy_X10_least ⟨w1153, w1154⟩ w1152 dL_least_5 rfl (Nat.le_of_ble_eq_true rfl) (Nat.le_of_ble_eq_true rfl) rfl)
    show zK x 10 8 [(0, .ref 0), (1, .int a1), (2, .int a2), (3, .ref 72)] [.int w, .int (0 : Int32), .ref 72] zD g 0 0
    refine zh_i2l (pc := 8) hG dL_least_8 ?_
    refine zh_last (pc := 9) hG DL_72 (zin_in (by decide)) dL_least_9 ?_
    refine zh_goto (pc := 10) (tgt := 21) hG dL_least_10 rfl ?_
    refine zh_iconst (pc := 21) hG kc_0 dL_least_21 ?_
    obtain rfl := Option.some.inj h
    exact zh_iret (pc := 22) hG rfl rfl hk dL_least_22
  · replace h := zel_r h
    have hC := tX10_least hl0 a1 a2 g hv
    try dsimp only [ztI, ztV, ztJ] at hC
    by_cases he0 : e = "java/lang/IndexOutOfBoundsException"
    · subst he0
      replace h := zif_t rfl h
      refine zh_afterX (rest := [.int (0 : Int32), .ref 72]) (A' := 0) (B' := 0) (E := "java/lang/IndexOutOfBoundsException") hG [] ⟨0, 10, 13, 19⟩ [⟨0, 10, 17, 21⟩] rfl (fun _ h => nomatch h) (by decide) (by decide) w827 (by decide) rfl rfl (by omega) (by omega) ?_ (zh_run hG [.int a1, .int a2] zc_X10 DL_0 hC zy_X10_least ⟨w1153, w1154⟩ w1152 dL_least_5 rfl (Nat.le_of_ble_eq_true rfl) (Nat.le_of_ble_eq_true rfl) rfl)
      refine zh_astore (pc := 13) (ls' := [(4, .ref 899), (0, .ref 0), (1, .int a1), (2, .int a2), (3, .ref 72)]) hG [0, 1, 2, 3, 4] (by decide) rfl dL_least_13 ?_
      refine zh_iconst (pc := 15) hG kc_1 dL_least_15 ?_
      obtain rfl := Option.some.inj h
      exact zh_iret (pc := 16) hG rfl rfl hk dL_least_16
    replace h := zif_f he0 h
    by_cases he1 : e = "java/util/NoSuchElementException"
    · subst he1
      replace h := zif_t rfl h
      refine zh_afterX (rest := [.int (0 : Int32), .ref 72]) (A' := 0) (B' := 0) (E := "java/util/NoSuchElementException") hG [⟨0, 10, 13, 19⟩] ⟨0, 10, 17, 21⟩ [] rfl (List.forall_mem_cons.mpr ⟨Or.inr ⟨by decide, "java/lang/IndexOutOfBoundsException", by decide, by decide, w827⟩, (fun _ h => nomatch h)⟩) (by decide) (by decide) w828 (by decide) rfl rfl (by omega) (by omega) ?_ (zh_run hG [.int a1, .int a2] zc_X10 DL_0 hC zy_X10_least ⟨w1153, w1154⟩ w1152 dL_least_5 rfl (Nat.le_of_ble_eq_true rfl) (Nat.le_of_ble_eq_true rfl) rfl)
      refine zh_astore (pc := 17) (ls' := [(4, .ref 899), (0, .ref 0), (1, .int a1), (2, .int a2), (3, .ref 72)]) hG [0, 1, 2, 3, 4] (by decide) rfl dL_least_17 ?_
      refine zh_iconst (pc := 19) hG kc_2 dL_least_19 ?_
      obtain rfl := Option.some.inj h
      exact zh_iret (pc := 20) hG rfl rfl hk dL_least_20
    replace h := zif_f he1 h
    cases h
theorem wcw_leastOf : Cond.codeWith yL_leastOf cL_leastOf 5 (some .int) [(0, 10, 13, 19)] ∈ zT := zT_k5 205 rfl rfl
theorem zyH_leastOf : Cond.codeWith yL_leastOf cL_leastOf 5 (some .int) [(0, 10, 13, 19)] ∈ zT ∧ Cond.initialized yL_leastOf.cls ∈ zT ∧ (yL_leastOf.cls ≠ "java/lang/invoke/MethodHandle" ∧ yL_leastOf.cls ≠ "java/lang/invoke/VarHandle") ∧ (parseMethodDescriptor yL_leastOf.desc).map (fun d => d.parameters.length) = some 4 ∧ 5 ≤ 31 := ⟨wcw_leastOf, w0, ⟨by decide, by decide⟩, by decide +kernel, by decide⟩
noncomputable def nL_leastOf (a1 : Int32) (a2 : Int32) (g : zS) : Option (Int32 × zS) :=
  (nX10_leastOf a1 a2 g).bind fun v => zel v (fun w => some ((0 : Int32), (zl g 72 (0 : Int32).toNatClampNeg w.toInt64))) (fun e => if e = "java/lang/IndexOutOfBoundsException" then (some ((1 : Int32), g)) else (none))
set_option maxHeartbeats 400000 in
theorem tL_leastOf {l : Launch} (hl0 : l.flags = flags0) (a1 : Int32) (a2 : Int32) (g : zS) {r : Int32 × zS} (h : nL_leastOf a1 a2 g = some r) : zCx l yL_leastOf (.codeWith yL_leastOf cL_leastOf 5 (some .int) [(0, 10, 13, 19)]) 10 1 6 [.ref 0, .int a1, .int a2, .ref 72] zD g (.inl (some (.int r.1)), zD, r.2) := by
  refine zCx_ofH hl0 rfl (Nat.le_of_ble_eq_true rfl) (fun x hG hxl hk => ?_)
  subst hxl
  have hG : zGH x cL_leastOf 5 RL (some .int) [⟨0, 10, 13, 19⟩] := hG
  show zK x 10 0 [(0, .ref 0), (1, .int a1), (2, .int a2), (3, .ref 72)] [] zD g 1 6
  unfold nL_leastOf at h
  refine zh_aload_n (pc := 0) hG 3 rfl rfl dL_leastOf_0 ?_
  refine zh_iconst (pc := 1) hG kc_0 dL_leastOf_1 ?_
  refine zh_aload_n (pc := 2) hG 0 rfl rfl dL_leastOf_2 ?_
  refine zh_iload_n (pc := 3) hG 1 rfl rfl dL_leastOf_3 ?_
  refine zh_iload_n (pc := 4) hG 2 rfl rfl dL_leastOf_4 ?_
  replace h := zbind h
  obtain ⟨w | e, hv, h⟩ := h
  · replace h := zel_l h
    have hC := tX10_leastOf hl0 a1 a2 g hv
    try dsimp only [ztI, ztV, ztJ] at hC
    refine zh_after (v := some (.int w)) (rest := [.int (0 : Int32), .ref 72]) (A' := 0) (B' := 0) hG rfl rfl (by omega) (by omega) ?_ (zh_run hG [.int a1, .int a2] zc_X10 DL_0 hC zy_X10_leastOf ⟨w1167, w1168⟩ w1166 dL_leastOf_5 rfl (Nat.le_of_ble_eq_true rfl) (Nat.le_of_ble_eq_true rfl) rfl)
    show zK x 10 8 [(0, .ref 0), (1, .int a1), (2, .int a2), (3, .ref 72)] [.int w, .int (0 : Int32), .ref 72] zD g 0 0
    refine zh_i2l (pc := 8) hG dL_leastOf_8 ?_
    refine zh_last (pc := 9) hG DL_72 (zin_in (by decide)) dL_leastOf_9 ?_
    refine zh_goto (pc := 10) (tgt := 17) hG dL_leastOf_10 rfl ?_
    refine zh_iconst (pc := 17) hG kc_0 dL_leastOf_17 ?_
    obtain rfl := Option.some.inj h
    exact zh_iret (pc := 18) hG rfl rfl hk dL_leastOf_18
  · replace h := zel_r h
    have hC := tX10_leastOf hl0 a1 a2 g hv
    try dsimp only [ztI, ztV, ztJ] at hC
    by_cases he0 : e = "java/lang/IndexOutOfBoundsException"
    · subst he0
      replace h := zif_t rfl h
      refine zh_afterX (rest := [.int (0 : Int32), .ref 72]) (A' := 0) (B' := 0) (E := "java/lang/IndexOutOfBoundsException") hG [] ⟨0, 10, 13, 19⟩ [] rfl (fun _ h => nomatch h) (by decide) (by decide) w827 (by decide) rfl rfl (by omega) (by omega) ?_ (zh_run hG [.int a1, .int a2] zc_X10 DL_0 hC zy_X10_leastOf ⟨w1167, w1168⟩ w1166 dL_leastOf_5 rfl (Nat.le_of_ble_eq_true rfl) (Nat.le_of_ble_eq_true rfl) rfl)
      refine zh_astore (pc := 13) (ls' := [(4, .ref 899), (0, .ref 0), (1, .int a1), (2, .int a2), (3, .ref 72)]) hG [0, 1, 2, 3, 4] (by decide) rfl dL_leastOf_13 ?_
      refine zh_iconst (pc := 15) hG kc_1 dL_leastOf_15 ?_
      obtain rfl := Option.some.inj h
      exact zh_iret (pc := 16) hG rfl rfl hk dL_leastOf_16
    replace h := zif_f he0 h
    cases h
theorem wcw_values : Cond.codeWith yL_values cL_values 6 (some .int) [(0, 12, 15, 19), (0, 12, 19, 13)] ∈ zT := zT_k5 216 rfl rfl
theorem zyH_values : Cond.codeWith yL_values cL_values 6 (some .int) [(0, 12, 15, 19), (0, 12, 19, 13)] ∈ zT ∧ Cond.initialized yL_values.cls ∈ zT ∧ (yL_values.cls ≠ "java/lang/invoke/MethodHandle" ∧ yL_values.cls ≠ "java/lang/invoke/VarHandle") ∧ (parseMethodDescriptor yL_values.desc).map (fun d => d.parameters.length) = some 5 ∧ 6 ≤ 31 := ⟨wcw_values, w0, ⟨by decide, by decide⟩, by decide +kernel, by decide⟩
noncomputable def nL_values (a1 : Int32) (a2 : Int32) (a3 : Int32) (g : zS) : Option (Int32 × zS) :=
  (nX10_values a1 a2 a3 g).bind fun v => zel v (fun w => some ((0 : Int32), (zl g 72 (0 : Int32).toNatClampNeg w.toInt64))) (fun e => if e = "java/lang/IndexOutOfBoundsException" then (some ((1 : Int32), g)) else (if e = "java/lang/IllegalArgumentException" then (some ((2 : Int32), g)) else (none)))
set_option maxHeartbeats 400000 in
theorem tL_values {l : Launch} (hl0 : l.flags = flags0) (a1 : Int32) (a2 : Int32) (a3 : Int32) (g : zS) {r : Int32 × zS} (h : nL_values a1 a2 a3 g = some r) : zCx l yL_values (.codeWith yL_values cL_values 6 (some .int) [(0, 12, 15, 19), (0, 12, 19, 13)]) 10 3 18 [.ref 0, .int a1, .int a2, .int a3, .ref 72] zD g (.inl (some (.int r.1)), zD, r.2) := by
  refine zCx_ofH hl0 rfl (Nat.le_of_ble_eq_true rfl) (fun x hG hxl hk => ?_)
  subst hxl
  have hG : zGH x cL_values 6 RL (some .int) [⟨0, 12, 15, 19⟩, ⟨0, 12, 19, 13⟩] := hG
  show zK x 10 0 [(0, .ref 0), (1, .int a1), (2, .int a2), (3, .int a3), (4, .ref 72)] [] zD g 3 18
  unfold nL_values at h
  refine zh_aload (pc := 0) hG 4 rfl dL_values_0 ?_
  refine zh_iconst (pc := 2) hG kc_0 dL_values_2 ?_
  refine zh_aload_n (pc := 3) hG 0 rfl rfl dL_values_3 ?_
  refine zh_iload_n (pc := 4) hG 1 rfl rfl dL_values_4 ?_
  refine zh_iload_n (pc := 5) hG 2 rfl rfl dL_values_5 ?_
  refine zh_iload_n (pc := 6) hG 3 rfl rfl dL_values_6 ?_
  replace h := zbind h
  obtain ⟨w | e, hv, h⟩ := h
  · replace h := zel_l h
    have hC := tX10_values hl0 a1 a2 a3 g hv
    try dsimp only [ztI, ztV, ztJ] at hC
    refine zh_after (v := some (.int w)) (rest := [.int (0 : Int32), .ref 72]) (A' := 0) (B' := 0) hG rfl rfl (by omega) (by omega) ?_ (zh_run hG [.int a1, .int a2, .int a3] zc_X10 DL_0 hC zy_X10_values ⟨w1178, w1179⟩ w1177 dL_values_7 rfl (Nat.le_of_ble_eq_true rfl) (Nat.le_of_ble_eq_true rfl) rfl)
    show zK x 10 10 [(0, .ref 0), (1, .int a1), (2, .int a2), (3, .int a3), (4, .ref 72)] [.int w, .int (0 : Int32), .ref 72] zD g 0 0
    refine zh_i2l (pc := 10) hG dL_values_10 ?_
    refine zh_last (pc := 11) hG DL_72 (zin_in (by decide)) dL_values_11 ?_
    refine zh_goto (pc := 12) (tgt := 23) hG dL_values_12 rfl ?_
    refine zh_iconst (pc := 23) hG kc_0 dL_values_23 ?_
    obtain rfl := Option.some.inj h
    exact zh_iret (pc := 24) hG rfl rfl hk dL_values_24
  · replace h := zel_r h
    have hC := tX10_values hl0 a1 a2 a3 g hv
    try dsimp only [ztI, ztV, ztJ] at hC
    by_cases he0 : e = "java/lang/IndexOutOfBoundsException"
    · subst he0
      replace h := zif_t rfl h
      refine zh_afterX (rest := [.int (0 : Int32), .ref 72]) (A' := 0) (B' := 0) (E := "java/lang/IndexOutOfBoundsException") hG [] ⟨0, 12, 15, 19⟩ [⟨0, 12, 19, 13⟩] rfl (fun _ h => nomatch h) (by decide) (by decide) w827 (by decide) rfl rfl (by omega) (by omega) ?_ (zh_run hG [.int a1, .int a2, .int a3] zc_X10 DL_0 hC zy_X10_values ⟨w1178, w1179⟩ w1177 dL_values_7 rfl (Nat.le_of_ble_eq_true rfl) (Nat.le_of_ble_eq_true rfl) rfl)
      refine zh_astore (pc := 15) (ls' := [(5, .ref 899), (0, .ref 0), (1, .int a1), (2, .int a2), (3, .int a3), (4, .ref 72)]) hG [0, 1, 2, 3, 4, 5] (by decide) rfl dL_values_15 ?_
      refine zh_iconst (pc := 17) hG kc_1 dL_values_17 ?_
      obtain rfl := Option.some.inj h
      exact zh_iret (pc := 18) hG rfl rfl hk dL_values_18
    replace h := zif_f he0 h
    by_cases he1 : e = "java/lang/IllegalArgumentException"
    · subst he1
      replace h := zif_t rfl h
      refine zh_afterX (rest := [.int (0 : Int32), .ref 72]) (A' := 0) (B' := 0) (E := "java/lang/IllegalArgumentException") hG [⟨0, 12, 15, 19⟩] ⟨0, 12, 19, 13⟩ [] rfl (List.forall_mem_cons.mpr ⟨Or.inr ⟨by decide, "java/lang/IndexOutOfBoundsException", by decide, by decide, w827⟩, (fun _ h => nomatch h)⟩) (by decide) (by decide) w555 (by decide) rfl rfl (by omega) (by omega) ?_ (zh_run hG [.int a1, .int a2, .int a3] zc_X10 DL_0 hC zy_X10_values ⟨w1178, w1179⟩ w1177 dL_values_7 rfl (Nat.le_of_ble_eq_true rfl) (Nat.le_of_ble_eq_true rfl) rfl)
      refine zh_astore (pc := 19) (ls' := [(5, .ref 899), (0, .ref 0), (1, .int a1), (2, .int a2), (3, .int a3), (4, .ref 72)]) hG [0, 1, 2, 3, 4, 5] (by decide) rfl dL_values_19 ?_
      refine zh_iconst (pc := 21) hG kc_2 dL_values_21 ?_
      obtain rfl := Option.some.inj h
      exact zh_iret (pc := 22) hG rfl rfl hk dL_values_22
    replace h := zif_f he1 h
    cases h
theorem wcw_forced : Cond.codeWith yL_forced cL_forced 4 (some .int) [(0, 9, 12, 19)] ∈ zT := zT_k5 223 rfl rfl
theorem zyH_forced : Cond.codeWith yL_forced cL_forced 4 (some .int) [(0, 9, 12, 19)] ∈ zT ∧ Cond.initialized yL_forced.cls ∈ zT ∧ (yL_forced.cls ≠ "java/lang/invoke/MethodHandle" ∧ yL_forced.cls ≠ "java/lang/invoke/VarHandle") ∧ (parseMethodDescriptor yL_forced.desc).map (fun d => d.parameters.length) = some 3 ∧ 4 ≤ 31 := ⟨wcw_forced, w0, ⟨by decide, by decide⟩, by decide +kernel, by decide⟩
noncomputable def nL_forced (a1 : Int32) (g : zS) : Option (Int32 × zS) :=
  (nX10_forced a1 g).bind fun v => zel v (fun w => some ((0 : Int32), (zl g 72 (0 : Int32).toNatClampNeg w.toInt64))) (fun e => if e = "java/lang/IndexOutOfBoundsException" then (some ((1 : Int32), g)) else (none))
set_option maxHeartbeats 400000 in
theorem tL_forced {l : Launch} (hl0 : l.flags = flags0) (a1 : Int32) (g : zS) {r : Int32 × zS} (h : nL_forced a1 g = some r) : zCx l yL_forced (.codeWith yL_forced cL_forced 4 (some .int) [(0, 9, 12, 19)]) 10 1 6 [.ref 0, .int a1, .ref 72] zD g (.inl (some (.int r.1)), zD, r.2) := by
  refine zCx_ofH hl0 rfl (Nat.le_of_ble_eq_true rfl) (fun x hG hxl hk => ?_)
  subst hxl
  have hG : zGH x cL_forced 4 RL (some .int) [⟨0, 9, 12, 19⟩] := hG
  show zK x 10 0 [(0, .ref 0), (1, .int a1), (2, .ref 72)] [] zD g 1 6
  unfold nL_forced at h
  refine zh_aload_n (pc := 0) hG 2 rfl rfl dL_forced_0 ?_
  refine zh_iconst (pc := 1) hG kc_0 dL_forced_1 ?_
  refine zh_aload_n (pc := 2) hG 0 rfl rfl dL_forced_2 ?_
  refine zh_iload_n (pc := 3) hG 1 rfl rfl dL_forced_3 ?_
  replace h := zbind h
  obtain ⟨w | e, hv, h⟩ := h
  · replace h := zel_l h
    have hC := tX10_forced hl0 a1 g hv
    try dsimp only [ztI, ztV, ztJ] at hC
    refine zh_after (v := some (.int w)) (rest := [.int (0 : Int32), .ref 72]) (A' := 0) (B' := 0) hG rfl rfl (by omega) (by omega) ?_ (zh_run hG [.int a1] zc_X10 DL_0 hC zy_X10_forced ⟨w1185, w1186⟩ w1184 dL_forced_4 rfl (Nat.le_of_ble_eq_true rfl) (Nat.le_of_ble_eq_true rfl) rfl)
    show zK x 10 7 [(0, .ref 0), (1, .int a1), (2, .ref 72)] [.int w, .int (0 : Int32), .ref 72] zD g 0 0
    refine zh_i2l (pc := 7) hG dL_forced_7 ?_
    refine zh_last (pc := 8) hG DL_72 (zin_in (by decide)) dL_forced_8 ?_
    refine zh_goto (pc := 9) (tgt := 15) hG dL_forced_9 rfl ?_
    refine zh_iconst (pc := 15) hG kc_0 dL_forced_15 ?_
    obtain rfl := Option.some.inj h
    exact zh_iret (pc := 16) hG rfl rfl hk dL_forced_16
  · replace h := zel_r h
    have hC := tX10_forced hl0 a1 g hv
    try dsimp only [ztI, ztV, ztJ] at hC
    by_cases he0 : e = "java/lang/IndexOutOfBoundsException"
    · subst he0
      replace h := zif_t rfl h
      refine zh_afterX (rest := [.int (0 : Int32), .ref 72]) (A' := 0) (B' := 0) (E := "java/lang/IndexOutOfBoundsException") hG [] ⟨0, 9, 12, 19⟩ [] rfl (fun _ h => nomatch h) (by decide) (by decide) w827 (by decide) rfl rfl (by omega) (by omega) ?_ (zh_run hG [.int a1] zc_X10 DL_0 hC zy_X10_forced ⟨w1185, w1186⟩ w1184 dL_forced_4 rfl (Nat.le_of_ble_eq_true rfl) (Nat.le_of_ble_eq_true rfl) rfl)
      refine zh_astore_n (pc := 12) (ls' := [(3, .ref 899), (0, .ref 0), (1, .int a1), (2, .ref 72)]) hG [0, 1, 2, 3] rfl (by decide) rfl dL_forced_12 ?_
      refine zh_iconst (pc := 13) hG kc_1 dL_forced_13 ?_
      obtain rfl := Option.some.inj h
      exact zh_iret (pc := 14) hG rfl rfl hk dL_forced_14
    replace h := zif_f he0 h
    cases h
theorem wcw_donor : Cond.codeWith yL_donor cL_donor 6 (some .int) [(0, 12, 15, 19)] ∈ zT := zT_k5 235 rfl rfl
theorem zyH_donor : Cond.codeWith yL_donor cL_donor 6 (some .int) [(0, 12, 15, 19)] ∈ zT ∧ Cond.initialized yL_donor.cls ∈ zT ∧ (yL_donor.cls ≠ "java/lang/invoke/MethodHandle" ∧ yL_donor.cls ≠ "java/lang/invoke/VarHandle") ∧ (parseMethodDescriptor yL_donor.desc).map (fun d => d.parameters.length) = some 5 ∧ 6 ≤ 31 := ⟨wcw_donor, w0, ⟨by decide, by decide⟩, by decide +kernel, by decide⟩
noncomputable def nL_donor (a1 : Int32) (a2 : Int32) (a3 : Int32) (g : zS) : Option (Int32 × zS) :=
  (nX10_donor a1 a2 a3 g).bind fun v => zel2 v (fun w g2 => some ((0 : Int32), (zl g2 72 (0 : Int32).toNatClampNeg w.toInt64))) (fun e g2 => if e = "java/lang/IndexOutOfBoundsException" then (some ((1 : Int32), g2)) else (none))
set_option maxHeartbeats 400000 in
theorem tL_donor {l : Launch} (hl0 : l.flags = flags0) (a1 : Int32) (a2 : Int32) (a3 : Int32) (g : zS) {r : Int32 × zS} (h : nL_donor a1 a2 a3 g = some r) : zCx l yL_donor (.codeWith yL_donor cL_donor 6 (some .int) [(0, 12, 15, 19)]) 10 1 6 [.ref 0, .int a1, .int a2, .int a3, .ref 72] zD g (.inl (some (.int r.1)), zD, r.2) := by
  refine zCx_ofH hl0 rfl (Nat.le_of_ble_eq_true rfl) (fun x hG hxl hk => ?_)
  subst hxl
  have hG : zGH x cL_donor 6 RL (some .int) [⟨0, 12, 15, 19⟩] := hG
  show zK x 10 0 [(0, .ref 0), (1, .int a1), (2, .int a2), (3, .int a3), (4, .ref 72)] [] zD g 1 6
  unfold nL_donor at h
  refine zh_aload (pc := 0) hG 4 rfl dL_donor_0 ?_
  refine zh_iconst (pc := 2) hG kc_0 dL_donor_2 ?_
  refine zh_aload_n (pc := 3) hG 0 rfl rfl dL_donor_3 ?_
  refine zh_iload_n (pc := 4) hG 1 rfl rfl dL_donor_4 ?_
  refine zh_iload_n (pc := 5) hG 2 rfl rfl dL_donor_5 ?_
  refine zh_iload_n (pc := 6) hG 3 rfl rfl dL_donor_6 ?_
  replace h := zbind h
  obtain ⟨⟨w | e, g2⟩, hv, h⟩ := h
  · replace h := zel2_l h
    have hC := tX10_donor hl0 a1 a2 a3 g hv
    try dsimp only [ztI, ztV, ztJ] at hC
    refine zh_after (v := some (.int w)) (rest := [.int (0 : Int32), .ref 72]) (A' := 0) (B' := 0) hG rfl rfl (by omega) (by omega) ?_ (zh_run hG [.int a1, .int a2, .int a3] zc_X10 DL_0 hC zy_X10_donor ⟨w1197, w1198⟩ w1196 dL_donor_7 rfl (Nat.le_of_ble_eq_true rfl) (Nat.le_of_ble_eq_true rfl) rfl)
    show zK x 10 10 [(0, .ref 0), (1, .int a1), (2, .int a2), (3, .int a3), (4, .ref 72)] [.int w, .int (0 : Int32), .ref 72] zD g2 0 0
    refine zh_i2l (pc := 10) hG dL_donor_10 ?_
    refine zh_last (pc := 11) hG DL_72 (zin_in (by decide)) dL_donor_11 ?_
    refine zh_goto (pc := 12) (tgt := 19) hG dL_donor_12 rfl ?_
    refine zh_iconst (pc := 19) hG kc_0 dL_donor_19 ?_
    obtain rfl := Option.some.inj h
    exact zh_iret (pc := 20) hG rfl rfl hk dL_donor_20
  · replace h := zel2_r h
    have hC := tX10_donor hl0 a1 a2 a3 g hv
    try dsimp only [ztI, ztV, ztJ] at hC
    by_cases he0 : e = "java/lang/IndexOutOfBoundsException"
    · subst he0
      replace h := zif_t rfl h
      refine zh_afterX (rest := [.int (0 : Int32), .ref 72]) (A' := 0) (B' := 0) (E := "java/lang/IndexOutOfBoundsException") hG [] ⟨0, 12, 15, 19⟩ [] rfl (fun _ h => nomatch h) (by decide) (by decide) w827 (by decide) rfl rfl (by omega) (by omega) ?_ (zh_run hG [.int a1, .int a2, .int a3] zc_X10 DL_0 hC zy_X10_donor ⟨w1197, w1198⟩ w1196 dL_donor_7 rfl (Nat.le_of_ble_eq_true rfl) (Nat.le_of_ble_eq_true rfl) rfl)
      refine zh_astore (pc := 15) (ls' := [(5, .ref 899), (0, .ref 0), (1, .int a1), (2, .int a2), (3, .int a3), (4, .ref 72)]) hG [0, 1, 2, 3, 4, 5] (by decide) rfl dL_donor_15 ?_
      refine zh_iconst (pc := 17) hG kc_1 dL_donor_17 ?_
      obtain rfl := Option.some.inj h
      exact zh_iret (pc := 18) hG rfl rfl hk dL_donor_18
    replace h := zif_f he0 h
    cases h
theorem wcw_would : Cond.codeWith yL_would cL_would 5 (some .int) [(0, 10, 13, 19), (0, 10, 17, 13)] ∈ zT := zT_k6 47 rfl rfl
theorem zyH_would : Cond.codeWith yL_would cL_would 5 (some .int) [(0, 10, 13, 19), (0, 10, 17, 13)] ∈ zT ∧ Cond.initialized yL_would.cls ∈ zT ∧ (yL_would.cls ≠ "java/lang/invoke/MethodHandle" ∧ yL_would.cls ≠ "java/lang/invoke/VarHandle") ∧ (parseMethodDescriptor yL_would.desc).map (fun d => d.parameters.length) = some 4 ∧ 5 ≤ 31 := ⟨wcw_would, w0, ⟨by decide, by decide⟩, by decide +kernel, by decide⟩
noncomputable def nL_would (a1 : Int32) (a2 : Int32) (g : zS) : Option (Int32 × zS) :=
  (nX10_would a1 a2 g).bind fun v => zel2 v (fun w g2 => some ((0 : Int32), (zl g2 72 (0 : Int32).toNatClampNeg w.toInt64))) (fun e g2 => if e = "java/lang/IndexOutOfBoundsException" then (some ((1 : Int32), g2)) else (if e = "java/lang/IllegalArgumentException" then (some ((2 : Int32), g2)) else (none)))
set_option maxHeartbeats 400000 in
theorem tL_would {l : Launch} (hl0 : l.flags = flags0) (a1 : Int32) (a2 : Int32) (g : zS) {r : Int32 × zS} (h : nL_would a1 a2 g = some r) : zCx l yL_would (.codeWith yL_would cL_would 5 (some .int) [(0, 10, 13, 19), (0, 10, 17, 13)]) 10 2 12 [.ref 0, .int a1, .int a2, .ref 72] zD g (.inl (some (.int r.1)), zD, r.2) := by
  refine zCx_ofH hl0 rfl (Nat.le_of_ble_eq_true rfl) (fun x hG hxl hk => ?_)
  subst hxl
  have hG : zGH x cL_would 5 RL (some .int) [⟨0, 10, 13, 19⟩, ⟨0, 10, 17, 13⟩] := hG
  show zK x 10 0 [(0, .ref 0), (1, .int a1), (2, .int a2), (3, .ref 72)] [] zD g 2 12
  unfold nL_would at h
  refine zh_aload_n (pc := 0) hG 3 rfl rfl dL_would_0 ?_
  refine zh_iconst (pc := 1) hG kc_0 dL_would_1 ?_
  refine zh_aload_n (pc := 2) hG 0 rfl rfl dL_would_2 ?_
  refine zh_iload_n (pc := 3) hG 1 rfl rfl dL_would_3 ?_
  refine zh_iload_n (pc := 4) hG 2 rfl rfl dL_would_4 ?_
  replace h := zbind h
  obtain ⟨⟨w | e, g2⟩, hv, h⟩ := h
  · replace h := zel2_l h
    have hC := tX10_would hl0 a1 a2 g hv
    try dsimp only [ztI, ztV, ztJ] at hC
    refine zh_after (v := some (.int w)) (rest := [.int (0 : Int32), .ref 72]) (A' := 0) (B' := 0) hG rfl rfl (by omega) (by omega) ?_ (zh_run hG [.int a1, .int a2] zc_X10 DL_0 hC zy_X10_would ⟨w1249, w1250⟩ w1248 dL_would_5 rfl (Nat.le_of_ble_eq_true rfl) (Nat.le_of_ble_eq_true rfl) rfl)
    show zK x 10 8 [(0, .ref 0), (1, .int a1), (2, .int a2), (3, .ref 72)] [.int w, .int (0 : Int32), .ref 72] zD g2 0 0
    refine zh_i2l (pc := 8) hG dL_would_8 ?_
    refine zh_last (pc := 9) hG DL_72 (zin_in (by decide)) dL_would_9 ?_
    refine zh_goto (pc := 10) (tgt := 21) hG dL_would_10 rfl ?_
    refine zh_iconst (pc := 21) hG kc_0 dL_would_21 ?_
    obtain rfl := Option.some.inj h
    exact zh_iret (pc := 22) hG rfl rfl hk dL_would_22
  · replace h := zel2_r h
    have hC := tX10_would hl0 a1 a2 g hv
    try dsimp only [ztI, ztV, ztJ] at hC
    by_cases he0 : e = "java/lang/IndexOutOfBoundsException"
    · subst he0
      replace h := zif_t rfl h
      refine zh_afterX (rest := [.int (0 : Int32), .ref 72]) (A' := 0) (B' := 0) (E := "java/lang/IndexOutOfBoundsException") hG [] ⟨0, 10, 13, 19⟩ [⟨0, 10, 17, 13⟩] rfl (fun _ h => nomatch h) (by decide) (by decide) w827 (by decide) rfl rfl (by omega) (by omega) ?_ (zh_run hG [.int a1, .int a2] zc_X10 DL_0 hC zy_X10_would ⟨w1249, w1250⟩ w1248 dL_would_5 rfl (Nat.le_of_ble_eq_true rfl) (Nat.le_of_ble_eq_true rfl) rfl)
      refine zh_astore (pc := 13) (ls' := [(4, .ref 899), (0, .ref 0), (1, .int a1), (2, .int a2), (3, .ref 72)]) hG [0, 1, 2, 3, 4] (by decide) rfl dL_would_13 ?_
      refine zh_iconst (pc := 15) hG kc_1 dL_would_15 ?_
      obtain rfl := Option.some.inj h
      exact zh_iret (pc := 16) hG rfl rfl hk dL_would_16
    replace h := zif_f he0 h
    by_cases he1 : e = "java/lang/IllegalArgumentException"
    · subst he1
      replace h := zif_t rfl h
      refine zh_afterX (rest := [.int (0 : Int32), .ref 72]) (A' := 0) (B' := 0) (E := "java/lang/IllegalArgumentException") hG [⟨0, 10, 13, 19⟩] ⟨0, 10, 17, 13⟩ [] rfl (List.forall_mem_cons.mpr ⟨Or.inr ⟨by decide, "java/lang/IndexOutOfBoundsException", by decide, by decide, w827⟩, (fun _ h => nomatch h)⟩) (by decide) (by decide) w555 (by decide) rfl rfl (by omega) (by omega) ?_ (zh_run hG [.int a1, .int a2] zc_X10 DL_0 hC zy_X10_would ⟨w1249, w1250⟩ w1248 dL_would_5 rfl (Nat.le_of_ble_eq_true rfl) (Nat.le_of_ble_eq_true rfl) rfl)
      refine zh_astore (pc := 17) (ls' := [(4, .ref 899), (0, .ref 0), (1, .int a1), (2, .int a2), (3, .ref 72)]) hG [0, 1, 2, 3, 4] (by decide) rfl dL_would_17 ?_
      refine zh_iconst (pc := 19) hG kc_2 dL_would_19 ?_
      obtain rfl := Option.some.inj h
      exact zh_iret (pc := 20) hG rfl rfl hk dL_would_20
    replace h := zif_f he1 h
    cases h
theorem wcw_mend : Cond.codeWith yL_mend cL_mend 5 (some .int) [(0, 10, 13, 19), (0, 10, 17, 13), (0, 10, 21, 57)] ∈ zT := zT_k6 83 rfl rfl
theorem zyH_mend : Cond.codeWith yL_mend cL_mend 5 (some .int) [(0, 10, 13, 19), (0, 10, 17, 13), (0, 10, 21, 57)] ∈ zT ∧ Cond.initialized yL_mend.cls ∈ zT ∧ (yL_mend.cls ≠ "java/lang/invoke/MethodHandle" ∧ yL_mend.cls ≠ "java/lang/invoke/VarHandle") ∧ (parseMethodDescriptor yL_mend.desc).map (fun d => d.parameters.length) = some 4 ∧ 5 ≤ 31 := ⟨wcw_mend, w0, ⟨by decide, by decide⟩, by decide +kernel, by decide⟩
noncomputable def nL_mend (a1 : Int32) (a2 : Int32) (g : zS) : Option (Int32 × zS) :=
  (nX10_mend a1 a2 g).bind fun v => zel2 v (fun w g2 => some ((0 : Int32), (zl g2 72 (0 : Int32).toNatClampNeg w.toInt64))) (fun e g2 => if e = "java/lang/IndexOutOfBoundsException" then (some ((1 : Int32), g2)) else (if e = "java/lang/IllegalArgumentException" then (some ((2 : Int32), g2)) else (if e = "java/lang/IllegalStateException" then (some ((3 : Int32), g2)) else (none))))
set_option maxHeartbeats 400000 in
theorem tL_mend {l : Launch} (hl0 : l.flags = flags0) (a1 : Int32) (a2 : Int32) (g : zS) {r : Int32 × zS} (h : nL_mend a1 a2 g = some r) : zCx l yL_mend (.codeWith yL_mend cL_mend 5 (some .int) [(0, 10, 13, 19), (0, 10, 17, 13), (0, 10, 21, 57)]) 10 3 18 [.ref 0, .int a1, .int a2, .ref 72] zD g (.inl (some (.int r.1)), zD, r.2) := by
  refine zCx_ofH hl0 rfl (Nat.le_of_ble_eq_true rfl) (fun x hG hxl hk => ?_)
  subst hxl
  have hG : zGH x cL_mend 5 RL (some .int) [⟨0, 10, 13, 19⟩, ⟨0, 10, 17, 13⟩, ⟨0, 10, 21, 57⟩] := hG
  show zK x 10 0 [(0, .ref 0), (1, .int a1), (2, .int a2), (3, .ref 72)] [] zD g 3 18
  unfold nL_mend at h
  refine zh_aload_n (pc := 0) hG 3 rfl rfl dL_mend_0 ?_
  refine zh_iconst (pc := 1) hG kc_0 dL_mend_1 ?_
  refine zh_aload_n (pc := 2) hG 0 rfl rfl dL_mend_2 ?_
  refine zh_iload_n (pc := 3) hG 1 rfl rfl dL_mend_3 ?_
  refine zh_iload_n (pc := 4) hG 2 rfl rfl dL_mend_4 ?_
  replace h := zbind h
  obtain ⟨⟨w | e, g2⟩, hv, h⟩ := h
  · replace h := zel2_l h
    have hC := tX10_mend hl0 a1 a2 g hv
    try dsimp only [ztI, ztV, ztJ] at hC
    refine zh_after (v := some (.int w)) (rest := [.int (0 : Int32), .ref 72]) (A' := 0) (B' := 0) hG rfl rfl (by omega) (by omega) ?_ (zh_run hG [.int a1, .int a2] zc_X10 DL_0 hC zy_X10_mend ⟨w1285, w1286⟩ w1284 dL_mend_5 rfl (Nat.le_of_ble_eq_true rfl) (Nat.le_of_ble_eq_true rfl) rfl)
    show zK x 10 8 [(0, .ref 0), (1, .int a1), (2, .int a2), (3, .ref 72)] [.int w, .int (0 : Int32), .ref 72] zD g2 0 0
    refine zh_i2l (pc := 8) hG dL_mend_8 ?_
    refine zh_last (pc := 9) hG DL_72 (zin_in (by decide)) dL_mend_9 ?_
    refine zh_goto (pc := 10) (tgt := 25) hG dL_mend_10 rfl ?_
    refine zh_iconst (pc := 25) hG kc_0 dL_mend_25 ?_
    obtain rfl := Option.some.inj h
    exact zh_iret (pc := 26) hG rfl rfl hk dL_mend_26
  · replace h := zel2_r h
    have hC := tX10_mend hl0 a1 a2 g hv
    try dsimp only [ztI, ztV, ztJ] at hC
    by_cases he0 : e = "java/lang/IndexOutOfBoundsException"
    · subst he0
      replace h := zif_t rfl h
      refine zh_afterX (rest := [.int (0 : Int32), .ref 72]) (A' := 0) (B' := 0) (E := "java/lang/IndexOutOfBoundsException") hG [] ⟨0, 10, 13, 19⟩ [⟨0, 10, 17, 13⟩, ⟨0, 10, 21, 57⟩] rfl (fun _ h => nomatch h) (by decide) (by decide) w827 (by decide) rfl rfl (by omega) (by omega) ?_ (zh_run hG [.int a1, .int a2] zc_X10 DL_0 hC zy_X10_mend ⟨w1285, w1286⟩ w1284 dL_mend_5 rfl (Nat.le_of_ble_eq_true rfl) (Nat.le_of_ble_eq_true rfl) rfl)
      refine zh_astore (pc := 13) (ls' := [(4, .ref 899), (0, .ref 0), (1, .int a1), (2, .int a2), (3, .ref 72)]) hG [0, 1, 2, 3, 4] (by decide) rfl dL_mend_13 ?_
      refine zh_iconst (pc := 15) hG kc_1 dL_mend_15 ?_
      obtain rfl := Option.some.inj h
      exact zh_iret (pc := 16) hG rfl rfl hk dL_mend_16
    replace h := zif_f he0 h
    by_cases he1 : e = "java/lang/IllegalArgumentException"
    · subst he1
      replace h := zif_t rfl h
      refine zh_afterX (rest := [.int (0 : Int32), .ref 72]) (A' := 0) (B' := 0) (E := "java/lang/IllegalArgumentException") hG [⟨0, 10, 13, 19⟩] ⟨0, 10, 17, 13⟩ [⟨0, 10, 21, 57⟩] rfl (List.forall_mem_cons.mpr ⟨Or.inr ⟨by decide, "java/lang/IndexOutOfBoundsException", by decide, by decide, w827⟩, (fun _ h => nomatch h)⟩) (by decide) (by decide) w555 (by decide) rfl rfl (by omega) (by omega) ?_ (zh_run hG [.int a1, .int a2] zc_X10 DL_0 hC zy_X10_mend ⟨w1285, w1286⟩ w1284 dL_mend_5 rfl (Nat.le_of_ble_eq_true rfl) (Nat.le_of_ble_eq_true rfl) rfl)
      refine zh_astore (pc := 17) (ls' := [(4, .ref 899), (0, .ref 0), (1, .int a1), (2, .int a2), (3, .ref 72)]) hG [0, 1, 2, 3, 4] (by decide) rfl dL_mend_17 ?_
      refine zh_iconst (pc := 19) hG kc_2 dL_mend_19 ?_
      obtain rfl := Option.some.inj h
      exact zh_iret (pc := 20) hG rfl rfl hk dL_mend_20
    replace h := zif_f he1 h
    by_cases he2 : e = "java/lang/IllegalStateException"
    · subst he2
      replace h := zif_t rfl h
      refine zh_afterX (rest := [.int (0 : Int32), .ref 72]) (A' := 0) (B' := 0) (E := "java/lang/IllegalStateException") hG [⟨0, 10, 13, 19⟩, ⟨0, 10, 17, 13⟩] ⟨0, 10, 21, 57⟩ [] rfl (List.forall_mem_cons.mpr ⟨Or.inr ⟨by decide, "java/lang/IndexOutOfBoundsException", by decide, by decide, w827⟩, (List.forall_mem_cons.mpr ⟨Or.inr ⟨by decide, "java/lang/IllegalArgumentException", by decide, by decide, w555⟩, (fun _ h => nomatch h)⟩)⟩) (by decide) (by decide) w1015 (by decide) rfl rfl (by omega) (by omega) ?_ (zh_run hG [.int a1, .int a2] zc_X10 DL_0 hC zy_X10_mend ⟨w1285, w1286⟩ w1284 dL_mend_5 rfl (Nat.le_of_ble_eq_true rfl) (Nat.le_of_ble_eq_true rfl) rfl)
      refine zh_astore (pc := 21) (ls' := [(4, .ref 899), (0, .ref 0), (1, .int a1), (2, .int a2), (3, .ref 72)]) hG [0, 1, 2, 3, 4] (by decide) rfl dL_mend_21 ?_
      refine zh_iconst (pc := 23) hG kc_3 dL_mend_23 ?_
      obtain rfl := Option.some.inj h
      exact zh_iret (pc := 24) hG rfl rfl hk dL_mend_24
    replace h := zif_f he2 h
    cases h
theorem wcw_mendAll : Cond.codeWith yL_mendAll cL_mendAll 4 (some .int) [(0, 9, 12, 13)] ∈ zT := zT_k6 95 rfl rfl
theorem zyH_mendAll : Cond.codeWith yL_mendAll cL_mendAll 4 (some .int) [(0, 9, 12, 13)] ∈ zT ∧ Cond.initialized yL_mendAll.cls ∈ zT ∧ (yL_mendAll.cls ≠ "java/lang/invoke/MethodHandle" ∧ yL_mendAll.cls ≠ "java/lang/invoke/VarHandle") ∧ (parseMethodDescriptor yL_mendAll.desc).map (fun d => d.parameters.length) = some 3 ∧ 4 ≤ 31 := ⟨wcw_mendAll, w0, ⟨by decide, by decide⟩, by decide +kernel, by decide⟩
noncomputable def nL_mendAll (a1 : Int32) (g : zS) : Option (Int32 × zS) :=
  (nX10_mendAll a1 g).bind fun v => zel2 v (fun w g2 => some ((0 : Int32), (zl g2 72 (0 : Int32).toNatClampNeg w.toInt64))) (fun e g2 => if e = "java/lang/IllegalArgumentException" then (some ((1 : Int32), g2)) else (none))
set_option maxHeartbeats 400000 in
theorem tL_mendAll {l : Launch} (hl0 : l.flags = flags0) (a1 : Int32) (g : zS) {r : Int32 × zS} (h : nL_mendAll a1 g = some r) : zCx l yL_mendAll (.codeWith yL_mendAll cL_mendAll 4 (some .int) [(0, 9, 12, 13)]) 10 1 6 [.ref 0, .int a1, .ref 72] zD g (.inl (some (.int r.1)), zD, r.2) := by
  refine zCx_ofH hl0 rfl (Nat.le_of_ble_eq_true rfl) (fun x hG hxl hk => ?_)
  subst hxl
  have hG : zGH x cL_mendAll 4 RL (some .int) [⟨0, 9, 12, 13⟩] := hG
  show zK x 10 0 [(0, .ref 0), (1, .int a1), (2, .ref 72)] [] zD g 1 6
  unfold nL_mendAll at h
  refine zh_aload_n (pc := 0) hG 2 rfl rfl dL_mendAll_0 ?_
  refine zh_iconst (pc := 1) hG kc_0 dL_mendAll_1 ?_
  refine zh_aload_n (pc := 2) hG 0 rfl rfl dL_mendAll_2 ?_
  refine zh_iload_n (pc := 3) hG 1 rfl rfl dL_mendAll_3 ?_
  replace h := zbind h
  obtain ⟨⟨w | e, g2⟩, hv, h⟩ := h
  · replace h := zel2_l h
    have hC := tX10_mendAll hl0 a1 g hv
    try dsimp only [ztI, ztV, ztJ] at hC
    refine zh_after (v := some (.int w)) (rest := [.int (0 : Int32), .ref 72]) (A' := 0) (B' := 0) hG rfl rfl (by omega) (by omega) ?_ (zh_run hG [.int a1] zc_X10 DL_0 hC zy_X10_mendAll ⟨w1297, w1298⟩ w1296 dL_mendAll_4 rfl (Nat.le_of_ble_eq_true rfl) (Nat.le_of_ble_eq_true rfl) rfl)
    show zK x 10 7 [(0, .ref 0), (1, .int a1), (2, .ref 72)] [.int w, .int (0 : Int32), .ref 72] zD g2 0 0
    refine zh_i2l (pc := 7) hG dL_mendAll_7 ?_
    refine zh_last (pc := 8) hG DL_72 (zin_in (by decide)) dL_mendAll_8 ?_
    refine zh_goto (pc := 9) (tgt := 15) hG dL_mendAll_9 rfl ?_
    refine zh_iconst (pc := 15) hG kc_0 dL_mendAll_15 ?_
    obtain rfl := Option.some.inj h
    exact zh_iret (pc := 16) hG rfl rfl hk dL_mendAll_16
  · replace h := zel2_r h
    have hC := tX10_mendAll hl0 a1 g hv
    try dsimp only [ztI, ztV, ztJ] at hC
    by_cases he0 : e = "java/lang/IllegalArgumentException"
    · subst he0
      replace h := zif_t rfl h
      refine zh_afterX (rest := [.int (0 : Int32), .ref 72]) (A' := 0) (B' := 0) (E := "java/lang/IllegalArgumentException") hG [] ⟨0, 9, 12, 13⟩ [] rfl (fun _ h => nomatch h) (by decide) (by decide) w555 (by decide) rfl rfl (by omega) (by omega) ?_ (zh_run hG [.int a1] zc_X10 DL_0 hC zy_X10_mendAll ⟨w1297, w1298⟩ w1296 dL_mendAll_4 rfl (Nat.le_of_ble_eq_true rfl) (Nat.le_of_ble_eq_true rfl) rfl)
      refine zh_astore_n (pc := 12) (ls' := [(3, .ref 899), (0, .ref 0), (1, .int a1), (2, .ref 72)]) hG [0, 1, 2, 3] rfl (by decide) rfl dL_mendAll_12 ?_
      refine zh_iconst (pc := 13) hG kc_1 dL_mendAll_13 ?_
      obtain rfl := Option.some.inj h
      exact zh_iret (pc := 14) hG rfl rfl hk dL_mendAll_14
    replace h := zif_f he0 h
    cases h
theorem wcw_trial : Cond.codeWith yL_trial cL_trial 5 (some .int) [(0, 10, 13, 13), (0, 10, 17, 21)] ∈ zT := zT_k6 107 rfl rfl
theorem zyH_trial : Cond.codeWith yL_trial cL_trial 5 (some .int) [(0, 10, 13, 13), (0, 10, 17, 21)] ∈ zT ∧ Cond.initialized yL_trial.cls ∈ zT ∧ (yL_trial.cls ≠ "java/lang/invoke/MethodHandle" ∧ yL_trial.cls ≠ "java/lang/invoke/VarHandle") ∧ (parseMethodDescriptor yL_trial.desc).map (fun d => d.parameters.length) = some 4 ∧ 5 ≤ 31 := ⟨wcw_trial, w0, ⟨by decide, by decide⟩, by decide +kernel, by decide⟩
noncomputable def nL_trial (a1 : Int32) (a2 : Int32) (g : zS) : Option (Int32 × zS) :=
  (nX10_trial a1 a2 g).bind fun v => zel2 v (fun w g2 => some ((0 : Int32), (zl g2 72 (0 : Int32).toNatClampNeg w.toInt64))) (fun e g2 => if e = "java/lang/IllegalArgumentException" then (some ((1 : Int32), g2)) else (if e = "java/util/NoSuchElementException" then (some ((2 : Int32), g2)) else (none)))
set_option maxHeartbeats 400000 in
theorem tL_trial {l : Launch} (hl0 : l.flags = flags0) (a1 : Int32) (a2 : Int32) (g : zS) {r : Int32 × zS} (h : nL_trial a1 a2 g = some r) : zCx l yL_trial (.codeWith yL_trial cL_trial 5 (some .int) [(0, 10, 13, 13), (0, 10, 17, 21)]) 10 2 12 [.ref 0, .int a1, .int a2, .ref 72] zD g (.inl (some (.int r.1)), zD, r.2) := by
  refine zCx_ofH hl0 rfl (Nat.le_of_ble_eq_true rfl) (fun x hG hxl hk => ?_)
  subst hxl
  have hG : zGH x cL_trial 5 RL (some .int) [⟨0, 10, 13, 13⟩, ⟨0, 10, 17, 21⟩] := hG
  show zK x 10 0 [(0, .ref 0), (1, .int a1), (2, .int a2), (3, .ref 72)] [] zD g 2 12
  unfold nL_trial at h
  refine zh_aload_n (pc := 0) hG 3 rfl rfl dL_trial_0 ?_
  refine zh_iconst (pc := 1) hG kc_0 dL_trial_1 ?_
  refine zh_aload_n (pc := 2) hG 0 rfl rfl dL_trial_2 ?_
  refine zh_iload_n (pc := 3) hG 1 rfl rfl dL_trial_3 ?_
  refine zh_iload_n (pc := 4) hG 2 rfl rfl dL_trial_4 ?_
  replace h := zbind h
  obtain ⟨⟨w | e, g2⟩, hv, h⟩ := h
  · replace h := zel2_l h
    have hC := tX10_trial hl0 a1 a2 g hv
    try dsimp only [ztI, ztV, ztJ] at hC
    refine zh_after (v := some (.int w)) (rest := [.int (0 : Int32), .ref 72]) (A' := 0) (B' := 0) hG rfl rfl (by omega) (by omega) ?_ (zh_run hG [.int a1, .int a2] zc_X10 DL_0 hC zy_X10_trial ⟨w1309, w1310⟩ w1308 dL_trial_5 rfl (Nat.le_of_ble_eq_true rfl) (Nat.le_of_ble_eq_true rfl) rfl)
    show zK x 10 8 [(0, .ref 0), (1, .int a1), (2, .int a2), (3, .ref 72)] [.int w, .int (0 : Int32), .ref 72] zD g2 0 0
    refine zh_i2l (pc := 8) hG dL_trial_8 ?_
    refine zh_last (pc := 9) hG DL_72 (zin_in (by decide)) dL_trial_9 ?_
    refine zh_goto (pc := 10) (tgt := 21) hG dL_trial_10 rfl ?_
    refine zh_iconst (pc := 21) hG kc_0 dL_trial_21 ?_
    obtain rfl := Option.some.inj h
    exact zh_iret (pc := 22) hG rfl rfl hk dL_trial_22
  · replace h := zel2_r h
    have hC := tX10_trial hl0 a1 a2 g hv
    try dsimp only [ztI, ztV, ztJ] at hC
    by_cases he0 : e = "java/lang/IllegalArgumentException"
    · subst he0
      replace h := zif_t rfl h
      refine zh_afterX (rest := [.int (0 : Int32), .ref 72]) (A' := 0) (B' := 0) (E := "java/lang/IllegalArgumentException") hG [] ⟨0, 10, 13, 13⟩ [⟨0, 10, 17, 21⟩] rfl (fun _ h => nomatch h) (by decide) (by decide) w555 (by decide) rfl rfl (by omega) (by omega) ?_ (zh_run hG [.int a1, .int a2] zc_X10 DL_0 hC zy_X10_trial ⟨w1309, w1310⟩ w1308 dL_trial_5 rfl (Nat.le_of_ble_eq_true rfl) (Nat.le_of_ble_eq_true rfl) rfl)
      refine zh_astore (pc := 13) (ls' := [(4, .ref 899), (0, .ref 0), (1, .int a1), (2, .int a2), (3, .ref 72)]) hG [0, 1, 2, 3, 4] (by decide) rfl dL_trial_13 ?_
      refine zh_iconst (pc := 15) hG kc_1 dL_trial_15 ?_
      obtain rfl := Option.some.inj h
      exact zh_iret (pc := 16) hG rfl rfl hk dL_trial_16
    replace h := zif_f he0 h
    by_cases he1 : e = "java/util/NoSuchElementException"
    · subst he1
      replace h := zif_t rfl h
      refine zh_afterX (rest := [.int (0 : Int32), .ref 72]) (A' := 0) (B' := 0) (E := "java/util/NoSuchElementException") hG [⟨0, 10, 13, 13⟩] ⟨0, 10, 17, 21⟩ [] rfl (List.forall_mem_cons.mpr ⟨Or.inr ⟨by decide, "java/lang/IllegalArgumentException", by decide, by decide, w555⟩, (fun _ h => nomatch h)⟩) (by decide) (by decide) w828 (by decide) rfl rfl (by omega) (by omega) ?_ (zh_run hG [.int a1, .int a2] zc_X10 DL_0 hC zy_X10_trial ⟨w1309, w1310⟩ w1308 dL_trial_5 rfl (Nat.le_of_ble_eq_true rfl) (Nat.le_of_ble_eq_true rfl) rfl)
      refine zh_astore (pc := 17) (ls' := [(4, .ref 899), (0, .ref 0), (1, .int a1), (2, .int a2), (3, .ref 72)]) hG [0, 1, 2, 3, 4] (by decide) rfl dL_trial_17 ?_
      refine zh_iconst (pc := 19) hG kc_2 dL_trial_19 ?_
      obtain rfl := Option.some.inj h
      exact zh_iret (pc := 20) hG rfl rfl hk dL_trial_20
    replace h := zif_f he1 h
    cases h
theorem wcw_pattern : Cond.codeWith yL_pattern cL_pattern 5 (some .int) [(0, 10, 13, 21)] ∈ zT := zT_k6 114 rfl rfl
theorem zyH_pattern : Cond.codeWith yL_pattern cL_pattern 5 (some .int) [(0, 10, 13, 21)] ∈ zT ∧ Cond.initialized yL_pattern.cls ∈ zT ∧ (yL_pattern.cls ≠ "java/lang/invoke/MethodHandle" ∧ yL_pattern.cls ≠ "java/lang/invoke/VarHandle") ∧ (parseMethodDescriptor yL_pattern.desc).map (fun d => d.parameters.length) = some 4 ∧ 5 ≤ 31 := ⟨wcw_pattern, w0, ⟨by decide, by decide⟩, by decide +kernel, by decide⟩
noncomputable def nL_pattern (a1 : Int32) (a2 : Int32) (g : zS) : Option (Int32 × zS) :=
  (nX10_pattern a1 a2 g).bind fun v => zel2 v (fun w g2 => some ((0 : Int32), (zl g2 72 (0 : Int32).toNatClampNeg w.toInt64))) (fun e g2 => if e = "java/util/NoSuchElementException" then (some ((1 : Int32), g2)) else (none))
set_option maxHeartbeats 400000 in
theorem tL_pattern {l : Launch} (hl0 : l.flags = flags0) (a1 : Int32) (a2 : Int32) (g : zS) {r : Int32 × zS} (h : nL_pattern a1 a2 g = some r) : zCx l yL_pattern (.codeWith yL_pattern cL_pattern 5 (some .int) [(0, 10, 13, 21)]) 9 1 6 [.ref 0, .int a1, .int a2, .ref 72] zD g (.inl (some (.int r.1)), zD, r.2) := by
  refine zCx_ofH hl0 rfl (Nat.le_of_ble_eq_true rfl) (fun x hG hxl hk => ?_)
  subst hxl
  have hG : zGH x cL_pattern 5 RL (some .int) [⟨0, 10, 13, 21⟩] := hG
  show zK x 9 0 [(0, .ref 0), (1, .int a1), (2, .int a2), (3, .ref 72)] [] zD g 1 6
  unfold nL_pattern at h
  refine zh_aload_n (pc := 0) hG 3 rfl rfl dL_pattern_0 ?_
  refine zh_iconst (pc := 1) hG kc_0 dL_pattern_1 ?_
  refine zh_aload_n (pc := 2) hG 0 rfl rfl dL_pattern_2 ?_
  refine zh_iload_n (pc := 3) hG 1 rfl rfl dL_pattern_3 ?_
  refine zh_iload_n (pc := 4) hG 2 rfl rfl dL_pattern_4 ?_
  replace h := zbind h
  obtain ⟨⟨w | e, g2⟩, hv, h⟩ := h
  · replace h := zel2_l h
    have hC := tX10_pattern hl0 a1 a2 g hv
    try dsimp only [ztI, ztV, ztJ] at hC
    refine zh_after (v := some (.int w)) (rest := [.int (0 : Int32), .ref 72]) (A' := 0) (B' := 0) hG rfl rfl (by omega) (by omega) ?_ (zh_run hG [.int a1, .int a2] zc_X10 DL_0 hC zy_X10_pattern ⟨w1316, w1317⟩ w1315 dL_pattern_5 rfl (Nat.le_of_ble_eq_true rfl) (Nat.le_of_ble_eq_true rfl) rfl)
    show zK x 9 8 [(0, .ref 0), (1, .int a1), (2, .int a2), (3, .ref 72)] [.int w, .int (0 : Int32), .ref 72] zD g2 0 0
    refine zh_i2l (pc := 8) hG dL_pattern_8 ?_
    refine zh_last (pc := 9) hG DL_72 (zin_in (by decide)) dL_pattern_9 ?_
    refine zh_goto (pc := 10) (tgt := 17) hG dL_pattern_10 rfl ?_
    refine zh_iconst (pc := 17) hG kc_0 dL_pattern_17 ?_
    obtain rfl := Option.some.inj h
    exact zh_iret (pc := 18) hG rfl rfl hk dL_pattern_18
  · replace h := zel2_r h
    have hC := tX10_pattern hl0 a1 a2 g hv
    try dsimp only [ztI, ztV, ztJ] at hC
    by_cases he0 : e = "java/util/NoSuchElementException"
    · subst he0
      replace h := zif_t rfl h
      refine zh_afterX (rest := [.int (0 : Int32), .ref 72]) (A' := 0) (B' := 0) (E := "java/util/NoSuchElementException") hG [] ⟨0, 10, 13, 21⟩ [] rfl (fun _ h => nomatch h) (by decide) (by decide) w828 (by decide) rfl rfl (by omega) (by omega) ?_ (zh_run hG [.int a1, .int a2] zc_X10 DL_0 hC zy_X10_pattern ⟨w1316, w1317⟩ w1315 dL_pattern_5 rfl (Nat.le_of_ble_eq_true rfl) (Nat.le_of_ble_eq_true rfl) rfl)
      refine zh_astore (pc := 13) (ls' := [(4, .ref 899), (0, .ref 0), (1, .int a1), (2, .int a2), (3, .ref 72)]) hG [0, 1, 2, 3, 4] (by decide) rfl dL_pattern_13 ?_
      refine zh_iconst (pc := 15) hG kc_1 dL_pattern_15 ?_
      obtain rfl := Option.some.inj h
      exact zh_iret (pc := 16) hG rfl rfl hk dL_pattern_16
    replace h := zif_f he0 h
    cases h
theorem wcw_alike : Cond.codeWith yL_alike cL_alike 5 (some .int) [(0, 10, 13, 19)] ∈ zT := zT_k6 133 rfl rfl
theorem zyH_alike : Cond.codeWith yL_alike cL_alike 5 (some .int) [(0, 10, 13, 19)] ∈ zT ∧ Cond.initialized yL_alike.cls ∈ zT ∧ (yL_alike.cls ≠ "java/lang/invoke/MethodHandle" ∧ yL_alike.cls ≠ "java/lang/invoke/VarHandle") ∧ (parseMethodDescriptor yL_alike.desc).map (fun d => d.parameters.length) = some 4 ∧ 5 ≤ 31 := ⟨wcw_alike, w0, ⟨by decide, by decide⟩, by decide +kernel, by decide⟩
noncomputable def nL_alike (a1 : Int32) (a2 : Int32) (g : zS) : Option (Int32 × zS) :=
  (nX10_alike a1 a2 g).bind fun v => zel2 v (fun w g2 => some ((0 : Int32), (zl g2 72 (0 : Int32).toNatClampNeg w.toInt64))) (fun e g2 => if e = "java/lang/IndexOutOfBoundsException" then (some ((1 : Int32), g2)) else (none))
set_option maxHeartbeats 400000 in
theorem tL_alike {l : Launch} (hl0 : l.flags = flags0) (a1 : Int32) (a2 : Int32) (g : zS) {r : Int32 × zS} (h : nL_alike a1 a2 g = some r) : zCx l yL_alike (.codeWith yL_alike cL_alike 5 (some .int) [(0, 10, 13, 19)]) 10 1 6 [.ref 0, .int a1, .int a2, .ref 72] zD g (.inl (some (.int r.1)), zD, r.2) := by
  refine zCx_ofH hl0 rfl (Nat.le_of_ble_eq_true rfl) (fun x hG hxl hk => ?_)
  subst hxl
  have hG : zGH x cL_alike 5 RL (some .int) [⟨0, 10, 13, 19⟩] := hG
  show zK x 10 0 [(0, .ref 0), (1, .int a1), (2, .int a2), (3, .ref 72)] [] zD g 1 6
  unfold nL_alike at h
  refine zh_aload_n (pc := 0) hG 3 rfl rfl dL_alike_0 ?_
  refine zh_iconst (pc := 1) hG kc_0 dL_alike_1 ?_
  refine zh_aload_n (pc := 2) hG 0 rfl rfl dL_alike_2 ?_
  refine zh_iload_n (pc := 3) hG 1 rfl rfl dL_alike_3 ?_
  refine zh_iload_n (pc := 4) hG 2 rfl rfl dL_alike_4 ?_
  replace h := zbind h
  obtain ⟨⟨w | e, g2⟩, hv, h⟩ := h
  · replace h := zel2_l h
    have hC := tX10_alike hl0 a1 a2 g hv
    try dsimp only [ztI, ztV, ztJ] at hC
    refine zh_after (v := some (.int w)) (rest := [.int (0 : Int32), .ref 72]) (A' := 0) (B' := 0) hG rfl rfl (by omega) (by omega) ?_ (zh_run hG [.int a1, .int a2] zc_X10 DL_0 hC zy_X10_alike ⟨w1335, w1336⟩ w1334 dL_alike_5 rfl (Nat.le_of_ble_eq_true rfl) (Nat.le_of_ble_eq_true rfl) rfl)
    show zK x 10 8 [(0, .ref 0), (1, .int a1), (2, .int a2), (3, .ref 72)] [.int w, .int (0 : Int32), .ref 72] zD g2 0 0
    refine zh_i2l (pc := 8) hG dL_alike_8 ?_
    refine zh_last (pc := 9) hG DL_72 (zin_in (by decide)) dL_alike_9 ?_
    refine zh_goto (pc := 10) (tgt := 17) hG dL_alike_10 rfl ?_
    refine zh_iconst (pc := 17) hG kc_0 dL_alike_17 ?_
    obtain rfl := Option.some.inj h
    exact zh_iret (pc := 18) hG rfl rfl hk dL_alike_18
  · replace h := zel2_r h
    have hC := tX10_alike hl0 a1 a2 g hv
    try dsimp only [ztI, ztV, ztJ] at hC
    by_cases he0 : e = "java/lang/IndexOutOfBoundsException"
    · subst he0
      replace h := zif_t rfl h
      refine zh_afterX (rest := [.int (0 : Int32), .ref 72]) (A' := 0) (B' := 0) (E := "java/lang/IndexOutOfBoundsException") hG [] ⟨0, 10, 13, 19⟩ [] rfl (fun _ h => nomatch h) (by decide) (by decide) w827 (by decide) rfl rfl (by omega) (by omega) ?_ (zh_run hG [.int a1, .int a2] zc_X10 DL_0 hC zy_X10_alike ⟨w1335, w1336⟩ w1334 dL_alike_5 rfl (Nat.le_of_ble_eq_true rfl) (Nat.le_of_ble_eq_true rfl) rfl)
      refine zh_astore (pc := 13) (ls' := [(4, .ref 899), (0, .ref 0), (1, .int a1), (2, .int a2), (3, .ref 72)]) hG [0, 1, 2, 3, 4] (by decide) rfl dL_alike_13 ?_
      refine zh_iconst (pc := 15) hG kc_1 dL_alike_15 ?_
      obtain rfl := Option.some.inj h
      exact zh_iret (pc := 16) hG rfl rfl hk dL_alike_16
    replace h := zif_f he0 h
    cases h
theorem wcw_near : Cond.codeWith yL_near cL_near 5 (some .int) [(0, 10, 13, 19)] ∈ zT := zT_k6 148 rfl rfl
theorem zyH_near : Cond.codeWith yL_near cL_near 5 (some .int) [(0, 10, 13, 19)] ∈ zT ∧ Cond.initialized yL_near.cls ∈ zT ∧ (yL_near.cls ≠ "java/lang/invoke/MethodHandle" ∧ yL_near.cls ≠ "java/lang/invoke/VarHandle") ∧ (parseMethodDescriptor yL_near.desc).map (fun d => d.parameters.length) = some 4 ∧ 5 ≤ 31 := ⟨wcw_near, w0, ⟨by decide, by decide⟩, by decide +kernel, by decide⟩
noncomputable def nL_near (a1 : Int32) (a2 : Int32) (g : zS) : Option (Int32 × zS) :=
  (nX10_near a1 a2 g).bind fun v => zel v (fun w => some ((0 : Int32), (zl g 72 (0 : Int32).toNatClampNeg w.toInt64))) (fun e => if e = "java/lang/IndexOutOfBoundsException" then (some ((1 : Int32), g)) else (none))
set_option maxHeartbeats 400000 in
theorem tL_near {l : Launch} (hl0 : l.flags = flags0) (a1 : Int32) (a2 : Int32) (g : zS) {r : Int32 × zS} (h : nL_near a1 a2 g = some r) : zCx l yL_near (.codeWith yL_near cL_near 5 (some .int) [(0, 10, 13, 19)]) 10 2 12 [.ref 0, .int a1, .int a2, .ref 72] zD g (.inl (some (.int r.1)), zD, r.2) := by
  refine zCx_ofH hl0 rfl (Nat.le_of_ble_eq_true rfl) (fun x hG hxl hk => ?_)
  subst hxl
  have hG : zGH x cL_near 5 RL (some .int) [⟨0, 10, 13, 19⟩] := hG
  show zK x 10 0 [(0, .ref 0), (1, .int a1), (2, .int a2), (3, .ref 72)] [] zD g 2 12
  unfold nL_near at h
  refine zh_aload_n (pc := 0) hG 3 rfl rfl dL_near_0 ?_
  refine zh_iconst (pc := 1) hG kc_0 dL_near_1 ?_
  refine zh_aload_n (pc := 2) hG 0 rfl rfl dL_near_2 ?_
  refine zh_iload_n (pc := 3) hG 1 rfl rfl dL_near_3 ?_
  refine zh_iload_n (pc := 4) hG 2 rfl rfl dL_near_4 ?_
  replace h := zbind h
  obtain ⟨w | e, hv, h⟩ := h
  · replace h := zel_l h
    have hC := tX10_near hl0 a1 a2 g hv
    try dsimp only [ztI, ztV, ztJ] at hC
    refine zh_after (v := some (.int w)) (rest := [.int (0 : Int32), .ref 72]) (A' := 0) (B' := 0) hG rfl rfl (by omega) (by omega) ?_ (zh_run hG [.int a1, .int a2] zc_X10 DL_0 hC zy_X10_near ⟨w1350, w1351⟩ w1349 dL_near_5 rfl (Nat.le_of_ble_eq_true rfl) (Nat.le_of_ble_eq_true rfl) rfl)
    show zK x 10 8 [(0, .ref 0), (1, .int a1), (2, .int a2), (3, .ref 72)] [.int w, .int (0 : Int32), .ref 72] zD g 0 0
    refine zh_i2l (pc := 8) hG dL_near_8 ?_
    refine zh_last (pc := 9) hG DL_72 (zin_in (by decide)) dL_near_9 ?_
    refine zh_goto (pc := 10) (tgt := 17) hG dL_near_10 rfl ?_
    refine zh_iconst (pc := 17) hG kc_0 dL_near_17 ?_
    obtain rfl := Option.some.inj h
    exact zh_iret (pc := 18) hG rfl rfl hk dL_near_18
  · replace h := zel_r h
    have hC := tX10_near hl0 a1 a2 g hv
    try dsimp only [ztI, ztV, ztJ] at hC
    by_cases he0 : e = "java/lang/IndexOutOfBoundsException"
    · subst he0
      replace h := zif_t rfl h
      refine zh_afterX (rest := [.int (0 : Int32), .ref 72]) (A' := 0) (B' := 0) (E := "java/lang/IndexOutOfBoundsException") hG [] ⟨0, 10, 13, 19⟩ [] rfl (fun _ h => nomatch h) (by decide) (by decide) w827 (by decide) rfl rfl (by omega) (by omega) ?_ (zh_run hG [.int a1, .int a2] zc_X10 DL_0 hC zy_X10_near ⟨w1350, w1351⟩ w1349 dL_near_5 rfl (Nat.le_of_ble_eq_true rfl) (Nat.le_of_ble_eq_true rfl) rfl)
      refine zh_astore (pc := 13) (ls' := [(4, .ref 899), (0, .ref 0), (1, .int a1), (2, .int a2), (3, .ref 72)]) hG [0, 1, 2, 3, 4] (by decide) rfl dL_near_13 ?_
      refine zh_iconst (pc := 15) hG kc_1 dL_near_15 ?_
      obtain rfl := Option.some.inj h
      exact zh_iret (pc := 16) hG rfl rfl hk dL_near_16
    replace h := zif_f he0 h
    cases h
theorem wcw_bunch : Cond.codeWith yL_bunch cL_bunch 5 (some .int) [(0, 10, 13, 19)] ∈ zT := zT_k6 156 rfl rfl
theorem zyH_bunch : Cond.codeWith yL_bunch cL_bunch 5 (some .int) [(0, 10, 13, 19)] ∈ zT ∧ Cond.initialized yL_bunch.cls ∈ zT ∧ (yL_bunch.cls ≠ "java/lang/invoke/MethodHandle" ∧ yL_bunch.cls ≠ "java/lang/invoke/VarHandle") ∧ (parseMethodDescriptor yL_bunch.desc).map (fun d => d.parameters.length) = some 4 ∧ 5 ≤ 31 := ⟨wcw_bunch, w0, ⟨by decide, by decide⟩, by decide +kernel, by decide⟩
noncomputable def nL_bunch (a1 : Int32) (a2 : Int32) (g : zS) : Option (Int32 × zS) :=
  (nX10_bunch a1 a2 g).bind fun v => zel2 v (fun w g2 => some ((0 : Int32), (zl g2 72 (0 : Int32).toNatClampNeg w.toInt64))) (fun e g2 => if e = "java/lang/IndexOutOfBoundsException" then (some ((1 : Int32), g2)) else (none))
set_option maxHeartbeats 400000 in
theorem tL_bunch {l : Launch} (hl0 : l.flags = flags0) (a1 : Int32) (a2 : Int32) (g : zS) {r : Int32 × zS} (h : nL_bunch a1 a2 g = some r) : zCx l yL_bunch (.codeWith yL_bunch cL_bunch 5 (some .int) [(0, 10, 13, 19)]) 10 1 6 [.ref 0, .int a1, .int a2, .ref 72] zD g (.inl (some (.int r.1)), zD, r.2) := by
  refine zCx_ofH hl0 rfl (Nat.le_of_ble_eq_true rfl) (fun x hG hxl hk => ?_)
  subst hxl
  have hG : zGH x cL_bunch 5 RL (some .int) [⟨0, 10, 13, 19⟩] := hG
  show zK x 10 0 [(0, .ref 0), (1, .int a1), (2, .int a2), (3, .ref 72)] [] zD g 1 6
  unfold nL_bunch at h
  refine zh_aload_n (pc := 0) hG 3 rfl rfl dL_bunch_0 ?_
  refine zh_iconst (pc := 1) hG kc_0 dL_bunch_1 ?_
  refine zh_aload_n (pc := 2) hG 0 rfl rfl dL_bunch_2 ?_
  refine zh_iload_n (pc := 3) hG 1 rfl rfl dL_bunch_3 ?_
  refine zh_iload_n (pc := 4) hG 2 rfl rfl dL_bunch_4 ?_
  replace h := zbind h
  obtain ⟨⟨w | e, g2⟩, hv, h⟩ := h
  · replace h := zel2_l h
    have hC := tX10_bunch hl0 a1 a2 g hv
    try dsimp only [ztI, ztV, ztJ] at hC
    refine zh_after (v := some (.int w)) (rest := [.int (0 : Int32), .ref 72]) (A' := 0) (B' := 0) hG rfl rfl (by omega) (by omega) ?_ (zh_run hG [.int a1, .int a2] zc_X10 DL_0 hC zy_X10_bunch ⟨w1358, w1359⟩ w1357 dL_bunch_5 rfl (Nat.le_of_ble_eq_true rfl) (Nat.le_of_ble_eq_true rfl) rfl)
    show zK x 10 8 [(0, .ref 0), (1, .int a1), (2, .int a2), (3, .ref 72)] [.int w, .int (0 : Int32), .ref 72] zD g2 0 0
    refine zh_i2l (pc := 8) hG dL_bunch_8 ?_
    refine zh_last (pc := 9) hG DL_72 (zin_in (by decide)) dL_bunch_9 ?_
    refine zh_goto (pc := 10) (tgt := 17) hG dL_bunch_10 rfl ?_
    refine zh_iconst (pc := 17) hG kc_0 dL_bunch_17 ?_
    obtain rfl := Option.some.inj h
    exact zh_iret (pc := 18) hG rfl rfl hk dL_bunch_18
  · replace h := zel2_r h
    have hC := tX10_bunch hl0 a1 a2 g hv
    try dsimp only [ztI, ztV, ztJ] at hC
    by_cases he0 : e = "java/lang/IndexOutOfBoundsException"
    · subst he0
      replace h := zif_t rfl h
      refine zh_afterX (rest := [.int (0 : Int32), .ref 72]) (A' := 0) (B' := 0) (E := "java/lang/IndexOutOfBoundsException") hG [] ⟨0, 10, 13, 19⟩ [] rfl (fun _ h => nomatch h) (by decide) (by decide) w827 (by decide) rfl rfl (by omega) (by omega) ?_ (zh_run hG [.int a1, .int a2] zc_X10 DL_0 hC zy_X10_bunch ⟨w1358, w1359⟩ w1357 dL_bunch_5 rfl (Nat.le_of_ble_eq_true rfl) (Nat.le_of_ble_eq_true rfl) rfl)
      refine zh_astore (pc := 13) (ls' := [(4, .ref 899), (0, .ref 0), (1, .int a1), (2, .int a2), (3, .ref 72)]) hG [0, 1, 2, 3, 4] (by decide) rfl dL_bunch_13 ?_
      refine zh_iconst (pc := 15) hG kc_1 dL_bunch_15 ?_
      obtain rfl := Option.some.inj h
      exact zh_iret (pc := 16) hG rfl rfl hk dL_bunch_16
    replace h := zif_f he0 h
    cases h
theorem wcw_changes : Cond.codeWith yL_changes cL_changes 4 (some .int) [(0, 9, 12, 19)] ∈ zT := zT_k6 178 rfl rfl
theorem zyH_changes : Cond.codeWith yL_changes cL_changes 4 (some .int) [(0, 9, 12, 19)] ∈ zT ∧ Cond.initialized yL_changes.cls ∈ zT ∧ (yL_changes.cls ≠ "java/lang/invoke/MethodHandle" ∧ yL_changes.cls ≠ "java/lang/invoke/VarHandle") ∧ (parseMethodDescriptor yL_changes.desc).map (fun d => d.parameters.length) = some 3 ∧ 4 ≤ 31 := ⟨wcw_changes, w0, ⟨by decide, by decide⟩, by decide +kernel, by decide⟩
noncomputable def nL_changes (a1 : Int32) (g : zS) : Option (Int32 × zS) :=
  (nX10_changes a1 g).bind fun v => zel v (fun w => some ((0 : Int32), (zl g 72 (0 : Int32).toNatClampNeg w.toInt64))) (fun e => if e = "java/lang/IndexOutOfBoundsException" then (some ((1 : Int32), g)) else (none))
set_option maxHeartbeats 400000 in
theorem tL_changes {l : Launch} (hl0 : l.flags = flags0) (a1 : Int32) (g : zS) {r : Int32 × zS} (h : nL_changes a1 g = some r) : zCx l yL_changes (.codeWith yL_changes cL_changes 4 (some .int) [(0, 9, 12, 19)]) 10 1 6 [.ref 0, .int a1, .ref 72] zD g (.inl (some (.int r.1)), zD, r.2) := by
  refine zCx_ofH hl0 rfl (Nat.le_of_ble_eq_true rfl) (fun x hG hxl hk => ?_)
  subst hxl
  have hG : zGH x cL_changes 4 RL (some .int) [⟨0, 9, 12, 19⟩] := hG
  show zK x 10 0 [(0, .ref 0), (1, .int a1), (2, .ref 72)] [] zD g 1 6
  unfold nL_changes at h
  refine zh_aload_n (pc := 0) hG 2 rfl rfl dL_changes_0 ?_
  refine zh_iconst (pc := 1) hG kc_0 dL_changes_1 ?_
  refine zh_aload_n (pc := 2) hG 0 rfl rfl dL_changes_2 ?_
  refine zh_iload_n (pc := 3) hG 1 rfl rfl dL_changes_3 ?_
  replace h := zbind h
  obtain ⟨w | e, hv, h⟩ := h
  · replace h := zel_l h
    have hC := tX10_changes hl0 a1 g hv
    try dsimp only [ztI, ztV, ztJ] at hC
    refine zh_after (v := some (.int w)) (rest := [.int (0 : Int32), .ref 72]) (A' := 0) (B' := 0) hG rfl rfl (by omega) (by omega) ?_ (zh_run hG [.int a1] zc_X10 DL_0 hC zy_X10_changes ⟨w1380, w1381⟩ w1379 dL_changes_4 rfl (Nat.le_of_ble_eq_true rfl) (Nat.le_of_ble_eq_true rfl) rfl)
    show zK x 10 7 [(0, .ref 0), (1, .int a1), (2, .ref 72)] [.int w, .int (0 : Int32), .ref 72] zD g 0 0
    refine zh_i2l (pc := 7) hG dL_changes_7 ?_
    refine zh_last (pc := 8) hG DL_72 (zin_in (by decide)) dL_changes_8 ?_
    refine zh_goto (pc := 9) (tgt := 15) hG dL_changes_9 rfl ?_
    refine zh_iconst (pc := 15) hG kc_0 dL_changes_15 ?_
    obtain rfl := Option.some.inj h
    exact zh_iret (pc := 16) hG rfl rfl hk dL_changes_16
  · replace h := zel_r h
    have hC := tX10_changes hl0 a1 g hv
    try dsimp only [ztI, ztV, ztJ] at hC
    by_cases he0 : e = "java/lang/IndexOutOfBoundsException"
    · subst he0
      replace h := zif_t rfl h
      refine zh_afterX (rest := [.int (0 : Int32), .ref 72]) (A' := 0) (B' := 0) (E := "java/lang/IndexOutOfBoundsException") hG [] ⟨0, 9, 12, 19⟩ [] rfl (fun _ h => nomatch h) (by decide) (by decide) w827 (by decide) rfl rfl (by omega) (by omega) ?_ (zh_run hG [.int a1] zc_X10 DL_0 hC zy_X10_changes ⟨w1380, w1381⟩ w1379 dL_changes_4 rfl (Nat.le_of_ble_eq_true rfl) (Nat.le_of_ble_eq_true rfl) rfl)
      refine zh_astore_n (pc := 12) (ls' := [(3, .ref 899), (0, .ref 0), (1, .int a1), (2, .ref 72)]) hG [0, 1, 2, 3] rfl (by decide) rfl dL_changes_12 ?_
      refine zh_iconst (pc := 13) hG kc_1 dL_changes_13 ?_
      obtain rfl := Option.some.inj h
      exact zh_iret (pc := 14) hG rfl rfl hk dL_changes_14
    replace h := zif_f he0 h
    cases h
theorem wcw_group : Cond.codeWith yL_group cL_group 5 (some .int) [(0, 10, 13, 57), (0, 10, 17, 13), (0, 10, 21, 21)] ∈ zT := zT_k6 190 rfl rfl
theorem zyH_group : Cond.codeWith yL_group cL_group 5 (some .int) [(0, 10, 13, 57), (0, 10, 17, 13), (0, 10, 21, 21)] ∈ zT ∧ Cond.initialized yL_group.cls ∈ zT ∧ (yL_group.cls ≠ "java/lang/invoke/MethodHandle" ∧ yL_group.cls ≠ "java/lang/invoke/VarHandle") ∧ (parseMethodDescriptor yL_group.desc).map (fun d => d.parameters.length) = some 4 ∧ 5 ≤ 31 := ⟨wcw_group, w0, ⟨by decide, by decide⟩, by decide +kernel, by decide⟩
noncomputable def nL_group (a1 : Int32) (a2 : Int32) (g : zS) : Option (Int32 × zS) :=
  (nX10_group a1 a2 g).bind fun v => zel v (fun w => some ((0 : Int32), (zl g 72 (0 : Int32).toNatClampNeg w.toInt64))) (fun e => if e = "java/lang/IllegalStateException" then (some ((1 : Int32), g)) else (if e = "java/lang/IllegalArgumentException" then (some ((2 : Int32), g)) else (if e = "java/util/NoSuchElementException" then (some ((3 : Int32), g)) else (none))))
set_option maxHeartbeats 400000 in
theorem tL_group {l : Launch} (hl0 : l.flags = flags0) (a1 : Int32) (a2 : Int32) (g : zS) {r : Int32 × zS} (h : nL_group a1 a2 g = some r) : zCx l yL_group (.codeWith yL_group cL_group 5 (some .int) [(0, 10, 13, 57), (0, 10, 17, 13), (0, 10, 21, 21)]) 11 2 12 [.ref 0, .int a1, .int a2, .ref 72] zD g (.inl (some (.int r.1)), zD, r.2) := by
  refine zCx_ofH hl0 rfl (Nat.le_of_ble_eq_true rfl) (fun x hG hxl hk => ?_)
  subst hxl
  have hG : zGH x cL_group 5 RL (some .int) [⟨0, 10, 13, 57⟩, ⟨0, 10, 17, 13⟩, ⟨0, 10, 21, 21⟩] := hG
  show zK x 11 0 [(0, .ref 0), (1, .int a1), (2, .int a2), (3, .ref 72)] [] zD g 2 12
  unfold nL_group at h
  refine zh_aload_n (pc := 0) hG 3 rfl rfl dL_group_0 ?_
  refine zh_iconst (pc := 1) hG kc_0 dL_group_1 ?_
  refine zh_aload_n (pc := 2) hG 0 rfl rfl dL_group_2 ?_
  refine zh_iload_n (pc := 3) hG 1 rfl rfl dL_group_3 ?_
  refine zh_iload_n (pc := 4) hG 2 rfl rfl dL_group_4 ?_
  replace h := zbind h
  obtain ⟨w | e, hv, h⟩ := h
  · replace h := zel_l h
    have hC := tX10_group hl0 a1 a2 g hv
    try dsimp only [ztI, ztV, ztJ] at hC
    refine zh_after (v := some (.int w)) (rest := [.int (0 : Int32), .ref 72]) (A' := 0) (B' := 0) hG rfl rfl (by omega) (by omega) ?_ (zh_run hG [.int a1, .int a2] zc_X10 DL_0 hC zy_X10_group ⟨w1392, w1393⟩ w1391 dL_group_5 rfl (Nat.le_of_ble_eq_true rfl) (Nat.le_of_ble_eq_true rfl) rfl)
    show zK x 11 8 [(0, .ref 0), (1, .int a1), (2, .int a2), (3, .ref 72)] [.int w, .int (0 : Int32), .ref 72] zD g 0 0
    refine zh_i2l (pc := 8) hG dL_group_8 ?_
    refine zh_last (pc := 9) hG DL_72 (zin_in (by decide)) dL_group_9 ?_
    refine zh_goto (pc := 10) (tgt := 25) hG dL_group_10 rfl ?_
    refine zh_iconst (pc := 25) hG kc_0 dL_group_25 ?_
    obtain rfl := Option.some.inj h
    exact zh_iret (pc := 26) hG rfl rfl hk dL_group_26
  · replace h := zel_r h
    have hC := tX10_group hl0 a1 a2 g hv
    try dsimp only [ztI, ztV, ztJ] at hC
    by_cases he0 : e = "java/lang/IllegalStateException"
    · subst he0
      replace h := zif_t rfl h
      refine zh_afterX (rest := [.int (0 : Int32), .ref 72]) (A' := 0) (B' := 0) (E := "java/lang/IllegalStateException") hG [] ⟨0, 10, 13, 57⟩ [⟨0, 10, 17, 13⟩, ⟨0, 10, 21, 21⟩] rfl (fun _ h => nomatch h) (by decide) (by decide) w1015 (by decide) rfl rfl (by omega) (by omega) ?_ (zh_run hG [.int a1, .int a2] zc_X10 DL_0 hC zy_X10_group ⟨w1392, w1393⟩ w1391 dL_group_5 rfl (Nat.le_of_ble_eq_true rfl) (Nat.le_of_ble_eq_true rfl) rfl)
      refine zh_astore (pc := 13) (ls' := [(4, .ref 899), (0, .ref 0), (1, .int a1), (2, .int a2), (3, .ref 72)]) hG [0, 1, 2, 3, 4] (by decide) rfl dL_group_13 ?_
      refine zh_iconst (pc := 15) hG kc_1 dL_group_15 ?_
      obtain rfl := Option.some.inj h
      exact zh_iret (pc := 16) hG rfl rfl hk dL_group_16
    replace h := zif_f he0 h
    by_cases he1 : e = "java/lang/IllegalArgumentException"
    · subst he1
      replace h := zif_t rfl h
      refine zh_afterX (rest := [.int (0 : Int32), .ref 72]) (A' := 0) (B' := 0) (E := "java/lang/IllegalArgumentException") hG [⟨0, 10, 13, 57⟩] ⟨0, 10, 17, 13⟩ [⟨0, 10, 21, 21⟩] rfl (List.forall_mem_cons.mpr ⟨Or.inr ⟨by decide, "java/lang/IllegalStateException", by decide, by decide, w1015⟩, (fun _ h => nomatch h)⟩) (by decide) (by decide) w555 (by decide) rfl rfl (by omega) (by omega) ?_ (zh_run hG [.int a1, .int a2] zc_X10 DL_0 hC zy_X10_group ⟨w1392, w1393⟩ w1391 dL_group_5 rfl (Nat.le_of_ble_eq_true rfl) (Nat.le_of_ble_eq_true rfl) rfl)
      refine zh_astore (pc := 17) (ls' := [(4, .ref 899), (0, .ref 0), (1, .int a1), (2, .int a2), (3, .ref 72)]) hG [0, 1, 2, 3, 4] (by decide) rfl dL_group_17 ?_
      refine zh_iconst (pc := 19) hG kc_2 dL_group_19 ?_
      obtain rfl := Option.some.inj h
      exact zh_iret (pc := 20) hG rfl rfl hk dL_group_20
    replace h := zif_f he1 h
    by_cases he2 : e = "java/util/NoSuchElementException"
    · subst he2
      replace h := zif_t rfl h
      refine zh_afterX (rest := [.int (0 : Int32), .ref 72]) (A' := 0) (B' := 0) (E := "java/util/NoSuchElementException") hG [⟨0, 10, 13, 57⟩, ⟨0, 10, 17, 13⟩] ⟨0, 10, 21, 21⟩ [] rfl (List.forall_mem_cons.mpr ⟨Or.inr ⟨by decide, "java/lang/IllegalStateException", by decide, by decide, w1015⟩, (List.forall_mem_cons.mpr ⟨Or.inr ⟨by decide, "java/lang/IllegalArgumentException", by decide, by decide, w555⟩, (fun _ h => nomatch h)⟩)⟩) (by decide) (by decide) w828 (by decide) rfl rfl (by omega) (by omega) ?_ (zh_run hG [.int a1, .int a2] zc_X10 DL_0 hC zy_X10_group ⟨w1392, w1393⟩ w1391 dL_group_5 rfl (Nat.le_of_ble_eq_true rfl) (Nat.le_of_ble_eq_true rfl) rfl)
      refine zh_astore (pc := 21) (ls' := [(4, .ref 899), (0, .ref 0), (1, .int a1), (2, .int a2), (3, .ref 72)]) hG [0, 1, 2, 3, 4] (by decide) rfl dL_group_21 ?_
      refine zh_iconst (pc := 23) hG kc_3 dL_group_23 ?_
      obtain rfl := Option.some.inj h
      exact zh_iret (pc := 24) hG rfl rfl hk dL_group_24
    replace h := zif_f he2 h
    cases h
theorem wcw_usual : Cond.codeWith yL_usual cL_usual 5 (some .int) [(0, 10, 13, 19), (0, 10, 17, 57), (0, 10, 21, 13)] ∈ zT := zT_k6 205 rfl rfl
theorem zyH_usual : Cond.codeWith yL_usual cL_usual 5 (some .int) [(0, 10, 13, 19), (0, 10, 17, 57), (0, 10, 21, 13)] ∈ zT ∧ Cond.initialized yL_usual.cls ∈ zT ∧ (yL_usual.cls ≠ "java/lang/invoke/MethodHandle" ∧ yL_usual.cls ≠ "java/lang/invoke/VarHandle") ∧ (parseMethodDescriptor yL_usual.desc).map (fun d => d.parameters.length) = some 4 ∧ 5 ≤ 31 := ⟨wcw_usual, w0, ⟨by decide, by decide⟩, by decide +kernel, by decide⟩
noncomputable def nL_usual (a1 : Int32) (a2 : Int32) (g : zS) : Option (Int32 × zS) :=
  (nX10_usual a1 a2 g).bind fun v => zel v (fun w => some ((0 : Int32), (zl g 72 (0 : Int32).toNatClampNeg w.toInt64))) (fun e => if e = "java/lang/IndexOutOfBoundsException" then (some ((1 : Int32), g)) else (if e = "java/lang/IllegalStateException" then (some ((2 : Int32), g)) else (if e = "java/lang/IllegalArgumentException" then (some ((3 : Int32), g)) else (none))))
set_option maxHeartbeats 400000 in
theorem tL_usual {l : Launch} (hl0 : l.flags = flags0) (a1 : Int32) (a2 : Int32) (g : zS) {r : Int32 × zS} (h : nL_usual a1 a2 g = some r) : zCx l yL_usual (.codeWith yL_usual cL_usual 5 (some .int) [(0, 10, 13, 19), (0, 10, 17, 57), (0, 10, 21, 13)]) 11 2 12 [.ref 0, .int a1, .int a2, .ref 72] zD g (.inl (some (.int r.1)), zD, r.2) := by
  refine zCx_ofH hl0 rfl (Nat.le_of_ble_eq_true rfl) (fun x hG hxl hk => ?_)
  subst hxl
  have hG : zGH x cL_usual 5 RL (some .int) [⟨0, 10, 13, 19⟩, ⟨0, 10, 17, 57⟩, ⟨0, 10, 21, 13⟩] := hG
  show zK x 11 0 [(0, .ref 0), (1, .int a1), (2, .int a2), (3, .ref 72)] [] zD g 2 12
  unfold nL_usual at h
  refine zh_aload_n (pc := 0) hG 3 rfl rfl dL_usual_0 ?_
  refine zh_iconst (pc := 1) hG kc_0 dL_usual_1 ?_
  refine zh_aload_n (pc := 2) hG 0 rfl rfl dL_usual_2 ?_
  refine zh_iload_n (pc := 3) hG 1 rfl rfl dL_usual_3 ?_
  refine zh_iload_n (pc := 4) hG 2 rfl rfl dL_usual_4 ?_
  replace h := zbind h
  obtain ⟨w | e, hv, h⟩ := h
  · replace h := zel_l h
    have hC := tX10_usual hl0 a1 a2 g hv
    try dsimp only [ztI, ztV, ztJ] at hC
    refine zh_after (v := some (.int w)) (rest := [.int (0 : Int32), .ref 72]) (A' := 0) (B' := 0) hG rfl rfl (by omega) (by omega) ?_ (zh_run hG [.int a1, .int a2] zc_X10 DL_0 hC zy_X10_usual ⟨w1407, w1408⟩ w1406 dL_usual_5 rfl (Nat.le_of_ble_eq_true rfl) (Nat.le_of_ble_eq_true rfl) rfl)
    show zK x 11 8 [(0, .ref 0), (1, .int a1), (2, .int a2), (3, .ref 72)] [.int w, .int (0 : Int32), .ref 72] zD g 0 0
    refine zh_i2l (pc := 8) hG dL_usual_8 ?_
    refine zh_last (pc := 9) hG DL_72 (zin_in (by decide)) dL_usual_9 ?_
    refine zh_goto (pc := 10) (tgt := 25) hG dL_usual_10 rfl ?_
    refine zh_iconst (pc := 25) hG kc_0 dL_usual_25 ?_
    obtain rfl := Option.some.inj h
    exact zh_iret (pc := 26) hG rfl rfl hk dL_usual_26
  · replace h := zel_r h
    have hC := tX10_usual hl0 a1 a2 g hv
    try dsimp only [ztI, ztV, ztJ] at hC
    by_cases he0 : e = "java/lang/IndexOutOfBoundsException"
    · subst he0
      replace h := zif_t rfl h
      refine zh_afterX (rest := [.int (0 : Int32), .ref 72]) (A' := 0) (B' := 0) (E := "java/lang/IndexOutOfBoundsException") hG [] ⟨0, 10, 13, 19⟩ [⟨0, 10, 17, 57⟩, ⟨0, 10, 21, 13⟩] rfl (fun _ h => nomatch h) (by decide) (by decide) w827 (by decide) rfl rfl (by omega) (by omega) ?_ (zh_run hG [.int a1, .int a2] zc_X10 DL_0 hC zy_X10_usual ⟨w1407, w1408⟩ w1406 dL_usual_5 rfl (Nat.le_of_ble_eq_true rfl) (Nat.le_of_ble_eq_true rfl) rfl)
      refine zh_astore (pc := 13) (ls' := [(4, .ref 899), (0, .ref 0), (1, .int a1), (2, .int a2), (3, .ref 72)]) hG [0, 1, 2, 3, 4] (by decide) rfl dL_usual_13 ?_
      refine zh_iconst (pc := 15) hG kc_1 dL_usual_15 ?_
      obtain rfl := Option.some.inj h
      exact zh_iret (pc := 16) hG rfl rfl hk dL_usual_16
    replace h := zif_f he0 h
    by_cases he1 : e = "java/lang/IllegalStateException"
    · subst he1
      replace h := zif_t rfl h
      refine zh_afterX (rest := [.int (0 : Int32), .ref 72]) (A' := 0) (B' := 0) (E := "java/lang/IllegalStateException") hG [⟨0, 10, 13, 19⟩] ⟨0, 10, 17, 57⟩ [⟨0, 10, 21, 13⟩] rfl (List.forall_mem_cons.mpr ⟨Or.inr ⟨by decide, "java/lang/IndexOutOfBoundsException", by decide, by decide, w827⟩, (fun _ h => nomatch h)⟩) (by decide) (by decide) w1015 (by decide) rfl rfl (by omega) (by omega) ?_ (zh_run hG [.int a1, .int a2] zc_X10 DL_0 hC zy_X10_usual ⟨w1407, w1408⟩ w1406 dL_usual_5 rfl (Nat.le_of_ble_eq_true rfl) (Nat.le_of_ble_eq_true rfl) rfl)
      refine zh_astore (pc := 17) (ls' := [(4, .ref 899), (0, .ref 0), (1, .int a1), (2, .int a2), (3, .ref 72)]) hG [0, 1, 2, 3, 4] (by decide) rfl dL_usual_17 ?_
      refine zh_iconst (pc := 19) hG kc_2 dL_usual_19 ?_
      obtain rfl := Option.some.inj h
      exact zh_iret (pc := 20) hG rfl rfl hk dL_usual_20
    replace h := zif_f he1 h
    by_cases he2 : e = "java/lang/IllegalArgumentException"
    · subst he2
      replace h := zif_t rfl h
      refine zh_afterX (rest := [.int (0 : Int32), .ref 72]) (A' := 0) (B' := 0) (E := "java/lang/IllegalArgumentException") hG [⟨0, 10, 13, 19⟩, ⟨0, 10, 17, 57⟩] ⟨0, 10, 21, 13⟩ [] rfl (List.forall_mem_cons.mpr ⟨Or.inr ⟨by decide, "java/lang/IndexOutOfBoundsException", by decide, by decide, w827⟩, (List.forall_mem_cons.mpr ⟨Or.inr ⟨by decide, "java/lang/IllegalStateException", by decide, by decide, w1015⟩, (fun _ h => nomatch h)⟩)⟩) (by decide) (by decide) w555 (by decide) rfl rfl (by omega) (by omega) ?_ (zh_run hG [.int a1, .int a2] zc_X10 DL_0 hC zy_X10_usual ⟨w1407, w1408⟩ w1406 dL_usual_5 rfl (Nat.le_of_ble_eq_true rfl) (Nat.le_of_ble_eq_true rfl) rfl)
      refine zh_astore (pc := 21) (ls' := [(4, .ref 899), (0, .ref 0), (1, .int a1), (2, .int a2), (3, .ref 72)]) hG [0, 1, 2, 3, 4] (by decide) rfl dL_usual_21 ?_
      refine zh_iconst (pc := 23) hG kc_3 dL_usual_23 ?_
      obtain rfl := Option.some.inj h
      exact zh_iret (pc := 24) hG rfl rfl hk dL_usual_24
    replace h := zif_f he2 h
    cases h
theorem wcw_share : Cond.codeWith yL_share cL_share 5 (some .int) [(0, 10, 13, 19), (0, 10, 17, 13)] ∈ zT := zT_k6 216 rfl rfl
theorem zyH_share : Cond.codeWith yL_share cL_share 5 (some .int) [(0, 10, 13, 19), (0, 10, 17, 13)] ∈ zT ∧ Cond.initialized yL_share.cls ∈ zT ∧ (yL_share.cls ≠ "java/lang/invoke/MethodHandle" ∧ yL_share.cls ≠ "java/lang/invoke/VarHandle") ∧ (parseMethodDescriptor yL_share.desc).map (fun d => d.parameters.length) = some 4 ∧ 5 ≤ 31 := ⟨wcw_share, w0, ⟨by decide, by decide⟩, by decide +kernel, by decide⟩
noncomputable def nL_share (a1 : Int32) (a2 : Int32) (g : zS) : Option (Int32 × zS) :=
  (nX10_share a1 a2 g).bind fun v => zel v (fun w => some ((0 : Int32), (zl g 72 (0 : Int32).toNatClampNeg w.toInt64))) (fun e => if e = "java/lang/IndexOutOfBoundsException" then (some ((1 : Int32), g)) else (if e = "java/lang/IllegalArgumentException" then (some ((2 : Int32), g)) else (none)))
set_option maxHeartbeats 400000 in
theorem tL_share {l : Launch} (hl0 : l.flags = flags0) (a1 : Int32) (a2 : Int32) (g : zS) {r : Int32 × zS} (h : nL_share a1 a2 g = some r) : zCx l yL_share (.codeWith yL_share cL_share 5 (some .int) [(0, 10, 13, 19), (0, 10, 17, 13)]) 10 2 12 [.ref 0, .int a1, .int a2, .ref 72] zD g (.inl (some (.int r.1)), zD, r.2) := by
  refine zCx_ofH hl0 rfl (Nat.le_of_ble_eq_true rfl) (fun x hG hxl hk => ?_)
  subst hxl
  have hG : zGH x cL_share 5 RL (some .int) [⟨0, 10, 13, 19⟩, ⟨0, 10, 17, 13⟩] := hG
  show zK x 10 0 [(0, .ref 0), (1, .int a1), (2, .int a2), (3, .ref 72)] [] zD g 2 12
  unfold nL_share at h
  refine zh_aload_n (pc := 0) hG 3 rfl rfl dL_share_0 ?_
  refine zh_iconst (pc := 1) hG kc_0 dL_share_1 ?_
  refine zh_aload_n (pc := 2) hG 0 rfl rfl dL_share_2 ?_
  refine zh_iload_n (pc := 3) hG 1 rfl rfl dL_share_3 ?_
  refine zh_iload_n (pc := 4) hG 2 rfl rfl dL_share_4 ?_
  replace h := zbind h
  obtain ⟨w | e, hv, h⟩ := h
  · replace h := zel_l h
    have hC := tX10_share hl0 a1 a2 g hv
    try dsimp only [ztI, ztV, ztJ] at hC
    refine zh_after (v := some (.int w)) (rest := [.int (0 : Int32), .ref 72]) (A' := 0) (B' := 0) hG rfl rfl (by omega) (by omega) ?_ (zh_run hG [.int a1, .int a2] zc_X10 DL_0 hC zy_X10_share ⟨w1418, w1419⟩ w1417 dL_share_5 rfl (Nat.le_of_ble_eq_true rfl) (Nat.le_of_ble_eq_true rfl) rfl)
    show zK x 10 8 [(0, .ref 0), (1, .int a1), (2, .int a2), (3, .ref 72)] [.int w, .int (0 : Int32), .ref 72] zD g 0 0
    refine zh_i2l (pc := 8) hG dL_share_8 ?_
    refine zh_last (pc := 9) hG DL_72 (zin_in (by decide)) dL_share_9 ?_
    refine zh_goto (pc := 10) (tgt := 21) hG dL_share_10 rfl ?_
    refine zh_iconst (pc := 21) hG kc_0 dL_share_21 ?_
    obtain rfl := Option.some.inj h
    exact zh_iret (pc := 22) hG rfl rfl hk dL_share_22
  · replace h := zel_r h
    have hC := tX10_share hl0 a1 a2 g hv
    try dsimp only [ztI, ztV, ztJ] at hC
    by_cases he0 : e = "java/lang/IndexOutOfBoundsException"
    · subst he0
      replace h := zif_t rfl h
      refine zh_afterX (rest := [.int (0 : Int32), .ref 72]) (A' := 0) (B' := 0) (E := "java/lang/IndexOutOfBoundsException") hG [] ⟨0, 10, 13, 19⟩ [⟨0, 10, 17, 13⟩] rfl (fun _ h => nomatch h) (by decide) (by decide) w827 (by decide) rfl rfl (by omega) (by omega) ?_ (zh_run hG [.int a1, .int a2] zc_X10 DL_0 hC zy_X10_share ⟨w1418, w1419⟩ w1417 dL_share_5 rfl (Nat.le_of_ble_eq_true rfl) (Nat.le_of_ble_eq_true rfl) rfl)
      refine zh_astore (pc := 13) (ls' := [(4, .ref 899), (0, .ref 0), (1, .int a1), (2, .int a2), (3, .ref 72)]) hG [0, 1, 2, 3, 4] (by decide) rfl dL_share_13 ?_
      refine zh_iconst (pc := 15) hG kc_1 dL_share_15 ?_
      obtain rfl := Option.some.inj h
      exact zh_iret (pc := 16) hG rfl rfl hk dL_share_16
    replace h := zif_f he0 h
    by_cases he1 : e = "java/lang/IllegalArgumentException"
    · subst he1
      replace h := zif_t rfl h
      refine zh_afterX (rest := [.int (0 : Int32), .ref 72]) (A' := 0) (B' := 0) (E := "java/lang/IllegalArgumentException") hG [⟨0, 10, 13, 19⟩] ⟨0, 10, 17, 13⟩ [] rfl (List.forall_mem_cons.mpr ⟨Or.inr ⟨by decide, "java/lang/IndexOutOfBoundsException", by decide, by decide, w827⟩, (fun _ h => nomatch h)⟩) (by decide) (by decide) w555 (by decide) rfl rfl (by omega) (by omega) ?_ (zh_run hG [.int a1, .int a2] zc_X10 DL_0 hC zy_X10_share ⟨w1418, w1419⟩ w1417 dL_share_5 rfl (Nat.le_of_ble_eq_true rfl) (Nat.le_of_ble_eq_true rfl) rfl)
      refine zh_astore (pc := 17) (ls' := [(4, .ref 899), (0, .ref 0), (1, .int a1), (2, .int a2), (3, .ref 72)]) hG [0, 1, 2, 3, 4] (by decide) rfl dL_share_17 ?_
      refine zh_iconst (pc := 19) hG kc_2 dL_share_19 ?_
      obtain rfl := Option.some.inj h
      exact zh_iret (pc := 20) hG rfl rfl hk dL_share_20
    replace h := zif_f he1 h
    cases h
theorem wcw_write : Cond.codeWith yL_write cL_write 4 (some .int) [(0, 9, 12, 19)] ∈ zT := zT_k6 224 rfl rfl
theorem zyH_write : Cond.codeWith yL_write cL_write 4 (some .int) [(0, 9, 12, 19)] ∈ zT ∧ Cond.initialized yL_write.cls ∈ zT ∧ (yL_write.cls ≠ "java/lang/invoke/MethodHandle" ∧ yL_write.cls ≠ "java/lang/invoke/VarHandle") ∧ (parseMethodDescriptor yL_write.desc).map (fun d => d.parameters.length) = some 3 ∧ 4 ≤ 31 := ⟨wcw_write, w0, ⟨by decide, by decide⟩, by decide +kernel, by decide⟩
noncomputable def nL_write (a1 : Int32) (g : zS) : Option (Int32 × zS) :=
  (nX10_write a1 g).bind fun v => zel2 v (fun w g2 => some ((0 : Int32), (zl g2 72 (0 : Int32).toNatClampNeg w.toInt64))) (fun e g2 => if e = "java/lang/IndexOutOfBoundsException" then (some ((1 : Int32), g2)) else (none))
set_option maxHeartbeats 400000 in
theorem tL_write {l : Launch} (hl0 : l.flags = flags0) (a1 : Int32) (g : zS) {r : Int32 × zS} (h : nL_write a1 g = some r) : zCx l yL_write (.codeWith yL_write cL_write 4 (some .int) [(0, 9, 12, 19)]) 10 1 6 [.ref 0, .int a1, .ref 72] zD g (.inl (some (.int r.1)), zD, r.2) := by
  refine zCx_ofH hl0 rfl (Nat.le_of_ble_eq_true rfl) (fun x hG hxl hk => ?_)
  subst hxl
  have hG : zGH x cL_write 4 RL (some .int) [⟨0, 9, 12, 19⟩] := hG
  show zK x 10 0 [(0, .ref 0), (1, .int a1), (2, .ref 72)] [] zD g 1 6
  unfold nL_write at h
  refine zh_aload_n (pc := 0) hG 2 rfl rfl dL_write_0 ?_
  refine zh_iconst (pc := 1) hG kc_0 dL_write_1 ?_
  refine zh_aload_n (pc := 2) hG 0 rfl rfl dL_write_2 ?_
  refine zh_iload_n (pc := 3) hG 1 rfl rfl dL_write_3 ?_
  replace h := zbind h
  obtain ⟨⟨w | e, g2⟩, hv, h⟩ := h
  · replace h := zel2_l h
    have hC := tX10_write hl0 a1 g hv
    try dsimp only [ztI, ztV, ztJ] at hC
    refine zh_after (v := some (.int w)) (rest := [.int (0 : Int32), .ref 72]) (A' := 0) (B' := 0) hG rfl rfl (by omega) (by omega) ?_ (zh_run hG [.int a1] zc_X10 DL_0 hC zy_X10_write ⟨w1426, w1427⟩ w1425 dL_write_4 rfl (Nat.le_of_ble_eq_true rfl) (Nat.le_of_ble_eq_true rfl) rfl)
    show zK x 10 7 [(0, .ref 0), (1, .int a1), (2, .ref 72)] [.int w, .int (0 : Int32), .ref 72] zD g2 0 0
    refine zh_i2l (pc := 7) hG dL_write_7 ?_
    refine zh_last (pc := 8) hG DL_72 (zin_in (by decide)) dL_write_8 ?_
    refine zh_goto (pc := 9) (tgt := 15) hG dL_write_9 rfl ?_
    refine zh_iconst (pc := 15) hG kc_0 dL_write_15 ?_
    obtain rfl := Option.some.inj h
    exact zh_iret (pc := 16) hG rfl rfl hk dL_write_16
  · replace h := zel2_r h
    have hC := tX10_write hl0 a1 g hv
    try dsimp only [ztI, ztV, ztJ] at hC
    by_cases he0 : e = "java/lang/IndexOutOfBoundsException"
    · subst he0
      replace h := zif_t rfl h
      refine zh_afterX (rest := [.int (0 : Int32), .ref 72]) (A' := 0) (B' := 0) (E := "java/lang/IndexOutOfBoundsException") hG [] ⟨0, 9, 12, 19⟩ [] rfl (fun _ h => nomatch h) (by decide) (by decide) w827 (by decide) rfl rfl (by omega) (by omega) ?_ (zh_run hG [.int a1] zc_X10 DL_0 hC zy_X10_write ⟨w1426, w1427⟩ w1425 dL_write_4 rfl (Nat.le_of_ble_eq_true rfl) (Nat.le_of_ble_eq_true rfl) rfl)
      refine zh_astore_n (pc := 12) (ls' := [(3, .ref 899), (0, .ref 0), (1, .int a1), (2, .ref 72)]) hG [0, 1, 2, 3] rfl (by decide) rfl dL_write_12 ?_
      refine zh_iconst (pc := 13) hG kc_1 dL_write_13 ?_
      obtain rfl := Option.some.inj h
      exact zh_iret (pc := 14) hG rfl rfl hk dL_write_14
    replace h := zif_f he0 h
    cases h
