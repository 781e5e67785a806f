theorem dL_action_0 : decode cL_action 0 = .ok (.aload 4, 2) := by decide +kernel
theorem dL_action_2 : decode cL_action 2 = .ok (.iconst 0, 1) := by decide +kernel
theorem dL_action_3 : decode cL_action 3 = .ok (.aload_n 0, 1) := by decide +kernel
theorem dL_action_4 : decode cL_action 4 = .ok (.iload_n 1, 1) := by decide +kernel
theorem dL_action_5 : decode cL_action 5 = .ok (.iload_n 2, 1) := by decide +kernel
theorem dL_action_6 : decode cL_action 6 = .ok (.iload_n 3, 1) := by decide +kernel
theorem dL_action_7 : decode cL_action 7 = .ok (.invokevirtual 28, 3) := by decide +kernel
theorem dL_action_10 : decode cL_action 10 = .ok (.i2l, 1) := by decide +kernel
theorem dL_action_11 : decode cL_action 11 = .ok (.lastore, 1) := by decide +kernel
theorem dL_action_12 : decode cL_action 12 = .ok (.goto 11, 3) := by decide +kernel
theorem dL_action_15 : decode cL_action 15 = .ok (.astore 5, 2) := by decide +kernel
theorem dL_action_17 : decode cL_action 17 = .ok (.iconst 1, 1) := by decide +kernel
theorem dL_action_18 : decode cL_action 18 = .ok (.ireturn, 1) := by decide +kernel
theorem dL_action_19 : decode cL_action 19 = .ok (.astore 5, 2) := by decide +kernel
theorem dL_action_21 : decode cL_action 21 = .ok (.iconst 2, 1) := by decide +kernel
theorem dL_action_22 : decode cL_action 22 = .ok (.ireturn, 1) := by decide +kernel
theorem dL_action_23 : decode cL_action 23 = .ok (.iconst 0, 1) := by decide +kernel
theorem dL_action_24 : decode cL_action 24 = .ok (.ireturn, 1) := by decide +kernel
theorem dL_allowed_0 : decode cL_allowed 0 = .ok (.aload_n 3, 1) := by decide +kernel
theorem dL_allowed_1 : decode cL_allowed 1 = .ok (.iconst 0, 1) := by decide +kernel
theorem dL_allowed_2 : decode cL_allowed 2 = .ok (.aload_n 0, 1) := by decide +kernel
theorem dL_allowed_3 : decode cL_allowed 3 = .ok (.iload_n 1, 1) := by decide +kernel
theorem dL_allowed_4 : decode cL_allowed 4 = .ok (.iload_n 2, 1) := by decide +kernel
theorem dL_allowed_5 : decode cL_allowed 5 = .ok (.invokevirtual 45, 3) := by decide +kernel
theorem dL_allowed_8 : decode cL_allowed 8 = .ok (.i2l, 1) := by decide +kernel
theorem dL_allowed_9 : decode cL_allowed 9 = .ok (.lastore, 1) := by decide +kernel
theorem dL_allowed_10 : decode cL_allowed 10 = .ok (.goto 11, 3) := by decide +kernel
theorem dL_allowed_13 : decode cL_allowed 13 = .ok (.astore 4, 2) := by decide +kernel
theorem dL_allowed_15 : decode cL_allowed 15 = .ok (.iconst 1, 1) := by decide +kernel
theorem dL_allowed_16 : decode cL_allowed 16 = .ok (.ireturn, 1) := by decide +kernel
theorem dL_allowed_17 : decode cL_allowed 17 = .ok (.astore 4, 2) := by decide +kernel
theorem dL_allowed_19 : decode cL_allowed 19 = .ok (.iconst 2, 1) := by decide +kernel
theorem dL_allowed_20 : decode cL_allowed 20 = .ok (.ireturn, 1) := by decide +kernel
theorem dL_allowed_21 : decode cL_allowed 21 = .ok (.iconst 0, 1) := by decide +kernel
theorem dL_allowed_22 : decode cL_allowed 22 = .ok (.ireturn, 1) := by decide +kernel
theorem dL_before_0 : decode cL_before 0 = .ok (.aload 4, 2) := by decide +kernel
theorem dL_before_2 : decode cL_before 2 = .ok (.iconst 0, 1) := by decide +kernel
theorem dL_before_3 : decode cL_before 3 = .ok (.aload_n 0, 1) := by decide +kernel
theorem dL_before_4 : decode cL_before 4 = .ok (.iload_n 1, 1) := by decide +kernel
theorem dL_before_5 : decode cL_before 5 = .ok (.iload_n 2, 1) := by decide +kernel
theorem dL_before_6 : decode cL_before 6 = .ok (.iload_n 3, 1) := by decide +kernel
theorem dL_before_7 : decode cL_before 7 = .ok (.invokevirtual 57, 3) := by decide +kernel
theorem dL_before_10 : decode cL_before 10 = .ok (.i2l, 1) := by decide +kernel
theorem dL_before_11 : decode cL_before 11 = .ok (.lastore, 1) := by decide +kernel
theorem dL_before_12 : decode cL_before 12 = .ok (.goto 11, 3) := by decide +kernel
theorem dL_before_15 : decode cL_before 15 = .ok (.astore 5, 2) := by decide +kernel
theorem dL_before_17 : decode cL_before 17 = .ok (.iconst 1, 1) := by decide +kernel
theorem dL_before_18 : decode cL_before 18 = .ok (.ireturn, 1) := by decide +kernel
theorem dL_before_19 : decode cL_before 19 = .ok (.astore 5, 2) := by decide +kernel
theorem dL_before_21 : decode cL_before 21 = .ok (.iconst 2, 1) := by decide +kernel
theorem dL_before_22 : decode cL_before 22 = .ok (.ireturn, 1) := by decide +kernel
theorem dL_before_23 : decode cL_before 23 = .ok (.iconst 0, 1) := by decide +kernel
theorem dL_before_24 : decode cL_before 24 = .ok (.ireturn, 1) := by decide +kernel
theorem dL_drop_0 : decode cL_drop 0 = .ok (.aload_n 2, 1) := by decide +kernel
theorem dL_drop_1 : decode cL_drop 1 = .ok (.iconst 0, 1) := by decide +kernel
theorem dL_drop_2 : decode cL_drop 2 = .ok (.aload_n 0, 1) := by decide +kernel
theorem dL_drop_3 : decode cL_drop 3 = .ok (.iload_n 1, 1) := by decide +kernel
theorem dL_drop_4 : decode cL_drop 4 = .ok (.invokevirtual 15, 3) := by decide +kernel
theorem dL_drop_7 : decode cL_drop 7 = .ok (.ifCond .eq 7, 3) := by decide +kernel
theorem dL_drop_10 : decode cL_drop 10 = .ok (.lconst 1, 1) := by decide +kernel
theorem dL_drop_11 : decode cL_drop 11 = .ok (.goto 4, 3) := by decide +kernel
theorem dL_drop_14 : decode cL_drop 14 = .ok (.lconst 0, 1) := by decide +kernel
theorem dL_drop_15 : decode cL_drop 15 = .ok (.lastore, 1) := by decide +kernel
theorem dL_drop_16 : decode cL_drop 16 = .ok (.goto 6, 3) := by decide +kernel
theorem dL_drop_19 : decode cL_drop 19 = .ok (.astore_n 3, 1) := by decide +kernel
theorem dL_drop_20 : decode cL_drop 20 = .ok (.iconst 1, 1) := by decide +kernel
theorem dL_drop_21 : decode cL_drop 21 = .ok (.ireturn, 1) := by decide +kernel
theorem dL_drop_22 : decode cL_drop 22 = .ok (.iconst 0, 1) := by decide +kernel
theorem dL_drop_23 : decode cL_drop 23 = .ok (.ireturn, 1) := by decide +kernel
theorem dL_fence_0 : decode cL_fence 0 = .ok (.aload_n 3, 1) := by decide +kernel
theorem dL_fence_1 : decode cL_fence 1 = .ok (.iconst 0, 1) := by decide +kernel
theorem dL_fence_2 : decode cL_fence 2 = .ok (.aload_n 0, 1) := by decide +kernel
theorem dL_fence_3 : decode cL_fence 3 = .ok (.iload_n 1, 1) := by decide +kernel
theorem dL_fence_4 : decode cL_fence 4 = .ok (.iload_n 2, 1) := by decide +kernel
theorem dL_fence_5 : decode cL_fence 5 = .ok (.invokevirtual 60, 3) := by decide +kernel
theorem dL_fence_8 : decode cL_fence 8 = .ok (.i2l, 1) := by decide +kernel
theorem dL_fence_9 : decode cL_fence 9 = .ok (.lastore, 1) := by decide +kernel
theorem dL_fence_10 : decode cL_fence 10 = .ok (.goto 11, 3) := by decide +kernel
theorem dL_fence_13 : decode cL_fence 13 = .ok (.astore 4, 2) := by decide +kernel
theorem dL_fence_15 : decode cL_fence 15 = .ok (.iconst 1, 1) := by decide +kernel
theorem dL_fence_16 : decode cL_fence 16 = .ok (.ireturn, 1) := by decide +kernel
theorem dL_fence_17 : decode cL_fence 17 = .ok (.astore 4, 2) := by decide +kernel
theorem dL_fence_19 : decode cL_fence 19 = .ok (.iconst 2, 1) := by decide +kernel
theorem dL_fence_20 : decode cL_fence 20 = .ok (.ireturn, 1) := by decide +kernel
theorem dL_fence_21 : decode cL_fence 21 = .ok (.iconst 0, 1) := by decide +kernel
theorem dL_fence_22 : decode cL_fence 22 = .ok (.ireturn, 1) := by decide +kernel
theorem dL_kind_0 : decode cL_kind 0 = .ok (.aload_n 3, 1) := by decide +kernel
theorem dL_kind_1 : decode cL_kind 1 = .ok (.iconst 0, 1) := by decide +kernel
theorem dL_kind_2 : decode cL_kind 2 = .ok (.aload_n 0, 1) := by decide +kernel
theorem dL_kind_3 : decode cL_kind 3 = .ok (.iload_n 1, 1) := by decide +kernel
theorem dL_kind_4 : decode cL_kind 4 = .ok (.iload_n 2, 1) := by decide +kernel
theorem dL_kind_5 : decode cL_kind 5 = .ok (.invokevirtual 25, 3) := by decide +kernel
theorem dL_kind_8 : decode cL_kind 8 = .ok (.i2l, 1) := by decide +kernel
theorem dL_kind_9 : decode cL_kind 9 = .ok (.lastore, 1) := by decide +kernel
theorem dL_kind_10 : decode cL_kind 10 = .ok (.goto 11, 3) := by decide +kernel
theorem dL_kind_13 : decode cL_kind 13 = .ok (.astore 4, 2) := by decide +kernel
theorem dL_kind_15 : decode cL_kind 15 = .ok (.iconst 1, 1) := by decide +kernel
theorem dL_kind_16 : decode cL_kind 16 = .ok (.ireturn, 1) := by decide +kernel
theorem dL_kind_17 : decode cL_kind 17 = .ok (.astore 4, 2) := by decide +kernel
theorem dL_kind_19 : decode cL_kind 19 = .ok (.iconst 2, 1) := by decide +kernel
theorem dL_kind_20 : decode cL_kind 20 = .ok (.ireturn, 1) := by decide +kernel
theorem dL_kind_21 : decode cL_kind 21 = .ok (.iconst 0, 1) := by decide +kernel
theorem dL_kind_22 : decode cL_kind 22 = .ok (.ireturn, 1) := by decide +kernel
theorem dL_load_0 : decode cL_load 0 = .ok (.aload_n 2, 1) := by decide +kernel
theorem dL_load_1 : decode cL_load 1 = .ok (.iconst 0, 1) := by decide +kernel
theorem dL_load_2 : decode cL_load 2 = .ok (.aload_n 0, 1) := by decide +kernel
theorem dL_load_3 : decode cL_load 3 = .ok (.iload_n 1, 1) := by decide +kernel
theorem dL_load_4 : decode cL_load 4 = .ok (.invokevirtual 7, 3) := by decide +kernel
theorem dL_load_7 : decode cL_load 7 = .ok (.i2l, 1) := by decide +kernel
theorem dL_load_8 : decode cL_load 8 = .ok (.lastore, 1) := by decide +kernel
theorem dL_load_9 : decode cL_load 9 = .ok (.goto 6, 3) := by decide +kernel
theorem dL_load_12 : decode cL_load 12 = .ok (.astore_n 3, 1) := by decide +kernel
theorem dL_load_13 : decode cL_load 13 = .ok (.iconst 1, 1) := by decide +kernel
theorem dL_load_14 : decode cL_load 14 = .ok (.ireturn, 1) := by decide +kernel
theorem dL_load_15 : decode cL_load 15 = .ok (.iconst 0, 1) := by decide +kernel
theorem dL_load_16 : decode cL_load 16 = .ok (.ireturn, 1) := by decide +kernel
theorem dL_look_0 : decode cL_look 0 = .ok (.aload_n 3, 1) := by decide +kernel
theorem dL_look_1 : decode cL_look 1 = .ok (.iconst 0, 1) := by decide +kernel
theorem dL_look_2 : decode cL_look 2 = .ok (.aload_n 0, 1) := by decide +kernel
theorem dL_look_3 : decode cL_look 3 = .ok (.iload_n 1, 1) := by decide +kernel
theorem dL_look_4 : decode cL_look 4 = .ok (.iload_n 2, 1) := by decide +kernel
theorem dL_look_5 : decode cL_look 5 = .ok (.invokevirtual 19, 3) := by decide +kernel
theorem dL_look_8 : decode cL_look 8 = .ok (.i2l, 1) := by decide +kernel
theorem dL_look_9 : decode cL_look 9 = .ok (.lastore, 1) := by decide +kernel
theorem dL_look_10 : decode cL_look 10 = .ok (.goto 11, 3) := by decide +kernel
theorem dL_look_13 : decode cL_look 13 = .ok (.astore 4, 2) := by decide +kernel
theorem dL_look_15 : decode cL_look 15 = .ok (.iconst 1, 1) := by decide +kernel
theorem dL_look_16 : decode cL_look 16 = .ok (.ireturn, 1) := by decide +kernel
theorem dL_look_17 : decode cL_look 17 = .ok (.astore 4, 2) := by decide +kernel
theorem dL_look_19 : decode cL_look 19 = .ok (.iconst 2, 1) := by decide +kernel
theorem dL_look_20 : decode cL_look 20 = .ok (.ireturn, 1) := by decide +kernel
theorem dL_look_21 : decode cL_look 21 = .ok (.iconst 0, 1) := by decide +kernel
theorem dL_look_22 : decode cL_look 22 = .ok (.ireturn, 1) := by decide +kernel
theorem dL_make_0 : decode cL_make 0 = .ok (.aload 4, 2) := by decide +kernel
theorem dL_make_2 : decode cL_make 2 = .ok (.iconst 0, 1) := by decide +kernel
theorem dL_make_3 : decode cL_make 3 = .ok (.aload_n 0, 1) := by decide +kernel
theorem dL_make_4 : decode cL_make 4 = .ok (.iload_n 1, 1) := by decide +kernel
theorem dL_make_5 : decode cL_make 5 = .ok (.iload_n 2, 1) := by decide +kernel
theorem dL_make_6 : decode cL_make 6 = .ok (.iload_n 3, 1) := by decide +kernel
theorem dL_make_7 : decode cL_make 7 = .ok (.invokevirtual 63, 3) := by decide +kernel
theorem dL_make_10 : decode cL_make 10 = .ok (.i2l, 1) := by decide +kernel
theorem dL_make_11 : decode cL_make 11 = .ok (.lastore, 1) := by decide +kernel
theorem dL_make_12 : decode cL_make 12 = .ok (.goto 11, 3) := by decide +kernel
theorem dL_make_15 : decode cL_make 15 = .ok (.astore 5, 2) := by decide +kernel
theorem dL_make_17 : decode cL_make 17 = .ok (.iconst 1, 1) := by decide +kernel
theorem dL_make_18 : decode cL_make 18 = .ok (.ireturn, 1) := by decide +kernel
theorem dL_make_19 : decode cL_make 19 = .ok (.astore 5, 2) := by decide +kernel
theorem dL_make_21 : decode cL_make 21 = .ok (.iconst 2, 1) := by decide +kernel
theorem dL_make_22 : decode cL_make 22 = .ok (.ireturn, 1) := by decide +kernel
theorem dL_make_23 : decode cL_make 23 = .ok (.iconst 0, 1) := by decide +kernel
theorem dL_make_24 : decode cL_make 24 = .ok (.ireturn, 1) := by decide +kernel
theorem dL_outcomes_0 : decode cL_outcomes 0 = .ok (.aload_n 3, 1) := by decide +kernel
theorem dL_outcomes_1 : decode cL_outcomes 1 = .ok (.iconst 0, 1) := by decide +kernel
theorem dL_outcomes_2 : decode cL_outcomes 2 = .ok (.aload_n 0, 1) := by decide +kernel
theorem dL_outcomes_3 : decode cL_outcomes 3 = .ok (.iload_n 1, 1) := by decide +kernel
theorem dL_outcomes_4 : decode cL_outcomes 4 = .ok (.iload_n 2, 1) := by decide +kernel
theorem dL_outcomes_5 : decode cL_outcomes 5 = .ok (.invokevirtual 35, 3) := by decide +kernel
theorem dL_outcomes_8 : decode cL_outcomes 8 = .ok (.i2l, 1) := by decide +kernel
theorem dL_outcomes_9 : decode cL_outcomes 9 = .ok (.lastore, 1) := by decide +kernel
theorem dL_outcomes_10 : decode cL_outcomes 10 = .ok (.goto 11, 3) := by decide +kernel
theorem dL_outcomes_13 : decode cL_outcomes 13 = .ok (.astore 4, 2) := by decide +kernel
theorem dL_outcomes_15 : decode cL_outcomes 15 = .ok (.iconst 1, 1) := by decide +kernel
theorem dL_outcomes_16 : decode cL_outcomes 16 = .ok (.ireturn, 1) := by decide +kernel
theorem dL_outcomes_17 : decode cL_outcomes 17 = .ok (.astore 4, 2) := by decide +kernel
theorem dL_outcomes_19 : decode cL_outcomes 19 = .ok (.iconst 2, 1) := by decide +kernel
theorem dL_outcomes_20 : decode cL_outcomes 20 = .ok (.ireturn, 1) := by decide +kernel
theorem dL_outcomes_21 : decode cL_outcomes 21 = .ok (.iconst 0, 1) := by decide +kernel
theorem dL_outcomes_22 : decode cL_outcomes 22 = .ok (.ireturn, 1) := by decide +kernel
theorem dL_print_0 : decode cL_print 0 = .ok (.aload_n 2, 1) := by decide +kernel
theorem dL_print_1 : decode cL_print 1 = .ok (.iconst 0, 1) := by decide +kernel
theorem dL_print_2 : decode cL_print 2 = .ok (.aload_n 0, 1) := by decide +kernel
theorem dL_print_3 : decode cL_print 3 = .ok (.iload_n 1, 1) := by decide +kernel
theorem dL_print_4 : decode cL_print 4 = .ok (.invokevirtual 32, 3) := by decide +kernel
theorem dL_print_7 : decode cL_print 7 = .ok (.i2l, 1) := by decide +kernel
theorem dL_print_8 : decode cL_print 8 = .ok (.lastore, 1) := by decide +kernel
theorem dL_print_9 : decode cL_print 9 = .ok (.goto 9, 3) := by decide +kernel
theorem dL_print_12 : decode cL_print 12 = .ok (.astore_n 3, 1) := by decide +kernel
theorem dL_print_13 : decode cL_print 13 = .ok (.iconst 1, 1) := by decide +kernel
theorem dL_print_14 : decode cL_print 14 = .ok (.ireturn, 1) := by decide +kernel
theorem dL_print_15 : decode cL_print 15 = .ok (.astore_n 3, 1) := by decide +kernel
theorem dL_print_16 : decode cL_print 16 = .ok (.iconst 2, 1) := by decide +kernel
theorem dL_print_17 : decode cL_print 17 = .ok (.ireturn, 1) := by decide +kernel
theorem dL_print_18 : decode cL_print 18 = .ok (.iconst 0, 1) := by decide +kernel
theorem dL_print_19 : decode cL_print 19 = .ok (.ireturn, 1) := by decide +kernel
theorem dL_race_0 : decode cL_race 0 = .ok (.aload 4, 2) := by decide +kernel
theorem dL_race_2 : decode cL_race 2 = .ok (.iconst 0, 1) := by decide +kernel
theorem dL_race_3 : decode cL_race 3 = .ok (.aload_n 0, 1) := by decide +kernel
theorem dL_race_4 : decode cL_race 4 = .ok (.iload_n 1, 1) := by decide +kernel
theorem dL_race_5 : decode cL_race 5 = .ok (.iload_n 2, 1) := by decide +kernel
theorem dL_race_6 : decode cL_race 6 = .ok (.iload_n 3, 1) := by decide +kernel
theorem dL_race_7 : decode cL_race 7 = .ok (.invokevirtual 54, 3) := by decide +kernel
theorem dL_race_10 : decode cL_race 10 = .ok (.i2l, 1) := by decide +kernel
theorem dL_race_11 : decode cL_race 11 = .ok (.lastore, 1) := by decide +kernel
theorem dL_race_12 : decode cL_race 12 = .ok (.goto 11, 3) := by decide +kernel
theorem dL_race_15 : decode cL_race 15 = .ok (.astore 5, 2) := by decide +kernel
theorem dL_race_17 : decode cL_race 17 = .ok (.iconst 1, 1) := by decide +kernel
theorem dL_race_18 : decode cL_race 18 = .ok (.ireturn, 1) := by decide +kernel
theorem dL_race_19 : decode cL_race 19 = .ok (.astore 5, 2) := by decide +kernel
theorem dL_race_21 : decode cL_race 21 = .ok (.iconst 2, 1) := by decide +kernel
theorem dL_race_22 : decode cL_race 22 = .ok (.ireturn, 1) := by decide +kernel
theorem dL_race_23 : decode cL_race 23 = .ok (.iconst 0, 1) := by decide +kernel
theorem dL_race_24 : decode cL_race 24 = .ok (.ireturn, 1) := by decide +kernel
theorem dL_races_0 : decode cL_races 0 = .ok (.aload_n 2, 1) := by decide +kernel
theorem dL_races_1 : decode cL_races 1 = .ok (.iconst 0, 1) := by decide +kernel
theorem dL_races_2 : decode cL_races 2 = .ok (.aload_n 0, 1) := by decide +kernel
theorem dL_races_3 : decode cL_races 3 = .ok (.iload_n 1, 1) := by decide +kernel
theorem dL_races_4 : decode cL_races 4 = .ok (.invokevirtual 51, 3) := by decide +kernel
theorem dL_races_7 : decode cL_races 7 = .ok (.i2l, 1) := by decide +kernel
theorem dL_races_8 : decode cL_races 8 = .ok (.lastore, 1) := by decide +kernel
theorem dL_races_9 : decode cL_races 9 = .ok (.goto 9, 3) := by decide +kernel
theorem dL_races_12 : decode cL_races 12 = .ok (.astore_n 3, 1) := by decide +kernel
theorem dL_races_13 : decode cL_races 13 = .ok (.iconst 1, 1) := by decide +kernel
theorem dL_races_14 : decode cL_races 14 = .ok (.ireturn, 1) := by decide +kernel
theorem dL_races_15 : decode cL_races 15 = .ok (.astore_n 3, 1) := by decide +kernel
theorem dL_races_16 : decode cL_races 16 = .ok (.iconst 2, 1) := by decide +kernel
theorem dL_races_17 : decode cL_races 17 = .ok (.ireturn, 1) := by decide +kernel
theorem dL_races_18 : decode cL_races 18 = .ok (.iconst 0, 1) := by decide +kernel
theorem dL_races_19 : decode cL_races 19 = .ok (.ireturn, 1) := by decide +kernel
theorem dL_same_0 : decode cL_same 0 = .ok (.aload_n 3, 1) := by decide +kernel
theorem dL_same_1 : decode cL_same 1 = .ok (.iconst 0, 1) := by decide +kernel
theorem dL_same_2 : decode cL_same 2 = .ok (.aload_n 0, 1) := by decide +kernel
theorem dL_same_3 : decode cL_same 3 = .ok (.iload_n 1, 1) := by decide +kernel
theorem dL_same_4 : decode cL_same 4 = .ok (.iload_n 2, 1) := by decide +kernel
theorem dL_same_5 : decode cL_same 5 = .ok (.invokevirtual 66, 3) := by decide +kernel
theorem dL_same_8 : decode cL_same 8 = .ok (.ifCond .eq 7, 3) := by decide +kernel
theorem dL_same_11 : decode cL_same 11 = .ok (.lconst 1, 1) := by decide +kernel
theorem dL_same_12 : decode cL_same 12 = .ok (.goto 4, 3) := by decide +kernel
theorem dL_same_15 : decode cL_same 15 = .ok (.lconst 0, 1) := by decide +kernel
theorem dL_same_16 : decode cL_same 16 = .ok (.lastore, 1) := by decide +kernel
theorem dL_same_17 : decode cL_same 17 = .ok (.goto 11, 3) := by decide +kernel
theorem dL_same_20 : decode cL_same 20 = .ok (.astore 4, 2) := by decide +kernel
theorem dL_same_22 : decode cL_same 22 = .ok (.iconst 1, 1) := by decide +kernel
theorem dL_same_23 : decode cL_same 23 = .ok (.ireturn, 1) := by decide +kernel
theorem dL_same_24 : decode cL_same 24 = .ok (.astore 4, 2) := by decide +kernel
theorem dL_same_26 : decode cL_same 26 = .ok (.iconst 2, 1) := by decide +kernel
theorem dL_same_27 : decode cL_same 27 = .ok (.ireturn, 1) := by decide +kernel
theorem dL_same_28 : decode cL_same 28 = .ok (.iconst 0, 1) := by decide +kernel
theorem dL_same_29 : decode cL_same 29 = .ok (.ireturn, 1) := by decide +kernel
theorem dL_stuck_0 : decode cL_stuck 0 = .ok (.aload 4, 2) := by decide +kernel
theorem dL_stuck_2 : decode cL_stuck 2 = .ok (.iconst 0, 1) := by decide +kernel
theorem dL_stuck_3 : decode cL_stuck 3 = .ok (.aload_n 0, 1) := by decide +kernel
theorem dL_stuck_4 : decode cL_stuck 4 = .ok (.iload_n 1, 1) := by decide +kernel
theorem dL_stuck_5 : decode cL_stuck 5 = .ok (.iload_n 2, 1) := by decide +kernel
theorem dL_stuck_6 : decode cL_stuck 6 = .ok (.iload_n 3, 1) := by decide +kernel
theorem dL_stuck_7 : decode cL_stuck 7 = .ok (.invokevirtual 42, 3) := by decide +kernel
theorem dL_stuck_10 : decode cL_stuck 10 = .ok (.i2l, 1) := by decide +kernel
theorem dL_stuck_11 : decode cL_stuck 11 = .ok (.lastore, 1) := by decide +kernel
theorem dL_stuck_12 : decode cL_stuck 12 = .ok (.goto 11, 3) := by decide +kernel
theorem dL_stuck_15 : decode cL_stuck 15 = .ok (.astore 5, 2) := by decide +kernel
theorem dL_stuck_17 : decode cL_stuck 17 = .ok (.iconst 1, 1) := by decide +kernel
theorem dL_stuck_18 : decode cL_stuck 18 = .ok (.ireturn, 1) := by decide +kernel
theorem dL_stuck_19 : decode cL_stuck 19 = .ok (.astore 5, 2) := by decide +kernel
theorem dL_stuck_21 : decode cL_stuck 21 = .ok (.iconst 2, 1) := by decide +kernel
theorem dL_stuck_22 : decode cL_stuck 22 = .ok (.ireturn, 1) := by decide +kernel
theorem dL_stuck_23 : decode cL_stuck 23 = .ok (.iconst 0, 1) := by decide +kernel
theorem dL_stuck_24 : decode cL_stuck 24 = .ok (.ireturn, 1) := by decide +kernel
theorem dL_value_0 : decode cL_value 0 = .ok (.aload 5, 2) := by decide +kernel
theorem dL_value_2 : decode cL_value 2 = .ok (.iconst 0, 1) := by decide +kernel
theorem dL_value_3 : decode cL_value 3 = .ok (.aload_n 0, 1) := by decide +kernel
theorem dL_value_4 : decode cL_value 4 = .ok (.iload_n 1, 1) := by decide +kernel
theorem dL_value_5 : decode cL_value 5 = .ok (.iload_n 2, 1) := by decide +kernel
theorem dL_value_6 : decode cL_value 6 = .ok (.iload_n 3, 1) := by decide +kernel
theorem dL_value_7 : decode cL_value 7 = .ok (.iload 4, 2) := by decide +kernel
theorem dL_value_9 : decode cL_value 9 = .ok (.invokevirtual 38, 3) := by decide +kernel
theorem dL_value_12 : decode cL_value 12 = .ok (.i2l, 1) := by decide +kernel
theorem dL_value_13 : decode cL_value 13 = .ok (.lastore, 1) := by decide +kernel
theorem dL_value_14 : decode cL_value 14 = .ok (.goto 11, 3) := by decide +kernel
theorem dL_value_17 : decode cL_value 17 = .ok (.astore 6, 2) := by decide +kernel
theorem dL_value_19 : decode cL_value 19 = .ok (.iconst 1, 1) := by decide +kernel
theorem dL_value_20 : decode cL_value 20 = .ok (.ireturn, 1) := by decide +kernel
theorem dL_value_21 : decode cL_value 21 = .ok (.astore 6, 2) := by decide +kernel
theorem dL_value_23 : decode cL_value 23 = .ok (.iconst 2, 1) := by decide +kernel
theorem dL_value_24 : decode cL_value 24 = .ok (.ireturn, 1) := by decide +kernel
theorem dL_value_25 : decode cL_value 25 = .ok (.iconst 0, 1) := by decide +kernel
theorem dL_value_26 : decode cL_value 26 = .ok (.ireturn, 1) := by decide +kernel
theorem dL_witness_0 : decode cL_witness 0 = .ok (.aload_n 2, 1) := by decide +kernel
theorem dL_witness_1 : decode cL_witness 1 = .ok (.iconst 0, 1) := by decide +kernel
theorem dL_witness_2 : decode cL_witness 2 = .ok (.aload_n 0, 1) := by decide +kernel
theorem dL_witness_3 : decode cL_witness 3 = .ok (.iload_n 1, 1) := by decide +kernel
theorem dL_witness_4 : decode cL_witness 4 = .ok (.invokevirtual 48, 3) := by decide +kernel
theorem dL_witness_7 : decode cL_witness 7 = .ok (.i2l, 1) := by decide +kernel
theorem dL_witness_8 : decode cL_witness 8 = .ok (.lastore, 1) := by decide +kernel
theorem dL_witness_9 : decode cL_witness 9 = .ok (.goto 9, 3) := by decide +kernel
theorem dL_witness_12 : decode cL_witness 12 = .ok (.astore_n 3, 1) := by decide +kernel
theorem dL_witness_13 : decode cL_witness 13 = .ok (.iconst 1, 1) := by decide +kernel
theorem dL_witness_14 : decode cL_witness 14 = .ok (.ireturn, 1) := by decide +kernel
theorem dL_witness_15 : decode cL_witness 15 = .ok (.astore_n 3, 1) := by decide +kernel
theorem dL_witness_16 : decode cL_witness 16 = .ok (.iconst 2, 1) := by decide +kernel
theorem dL_witness_17 : decode cL_witness 17 = .ok (.ireturn, 1) := by decide +kernel
theorem dL_witness_18 : decode cL_witness 18 = .ok (.iconst 0, 1) := by decide +kernel
theorem dL_witness_19 : decode cL_witness 19 = .ok (.ireturn, 1) := by decide +kernel
/-! ===== LitmusHouseLaw.action(LLitmusHouse;III[J)I ===== -/
theorem kw_L_action : Kw yL_action cL_action 6 (some .int) [(0, 12, 15, 13), (0, 12, 19, 23)] 5 := ⟨wm_1241, wm_1242, by decide +kernel, by decide⟩
def b_L_action_23  (h : AH) : Option (Int32 × AH) :=
  some ((0 : Int32), h)
set_option maxHeartbeats 4000000 in
set_option maxRecDepth 100000 in
theorem q_L_action_23 {h hE : AH} {v : Int32} (hf : b_L_action_23  h = some (v, hE)) : JD cL_action 6 RL "action" (some .int) (13) 23 [] [] h hE (some (.inl (v))) := by
  unfold b_L_action_23 at hf
  obtain ⟨hv, hh⟩ := Prod.mk.inj (Option.some.inj hf)
  subst hv
  subst hh
  have mE : hp_n h ≤ hp_n h ∧ hp_s h ≤ hp_s h := ⟨Nat.le_refl _, Nat.le_refl _⟩
  refine ⟨by omega, fun X g K ok nmx lev hK en => ?_⟩
  refine tj_iconst (v := 0) ok dL_action_23 (by decide) ?_
  exact tj_ireturn ok en dL_action_24
def b_L_action_0 (a0 : Nat) (a1 : Int32) (a2 : Int32) (a3 : Int32) (a4 : Nat) (h : AH) : Option (Int32 × AH) :=
  (ok_v h a0 10).bind fun x1 => (f_X10_action a0 a1 a2 a3 h).bind fun q2 => (s_j q2.2 a4 (0 : Int32) q2.1.toInt64).bind fun h3 => b_L_action_23 h3
set_option maxHeartbeats 4000000 in
set_option maxRecDepth 100000 in
theorem q_L_action_0 {a0 : Nat} {a1 : Int32} {a2 : Int32} {a3 : Int32} {a4 : Nat} {h hE : AH} {v : Int32} (hf : b_L_action_0 a0 a1 a2 a3 a4 h = some (v, hE)) : JD cL_action 6 RL "action" (some .int) (13) 0 [(0, .inr (.inr (a0))), (1, .inl (a1)), (2, .inl (a2)), (3, .inl (a3)), (4, .inr (.inr (a4)))] [] h hE (some (.inl (v))) := by
  unfold b_L_action_0 at hf
  obtain ⟨x1, e1, hf⟩ := bnd hf
  obtain ⟨⟨x2, h2⟩, e2, hf⟩ := bnd hf
  try dsimp only at hf
  have k2 := c_X10_action e2
  have m2 := (k2 default_g).1
  obtain ⟨h3, e3, hf⟩ := bnd hf
  have m3 := nn_sj e3
  have J := q_L_action_23 hf
  have mE := J.1
  refine ⟨by omega, fun X g K ok nmx lev hK en => ?_⟩
  refine tj_aload ok 4 dL_action_0 rfl ?_
  refine tj_iconst (v := 0) ok dL_action_2 (by decide) ?_
  refine tj_aload_n ok 0 dL_action_3 rfl rfl ?_
  refine tj_iload_n ok 1 dL_action_4 rfl rfl ?_
  refine tj_iload_n ok 2 dL_action_5 rfl rfl ?_
  refine tj_iload_n ok 3 dL_action_6 rfl rfl ?_
  refine tj_callV (rest := ([.inl ((0 : Int32)), .inr (.inr (a4))] : List TV).map (vl g)) (as := [.inl (a1), .inl (a2), .inl (a3)]) ok lev (by omega) fcX10.1 (by decide) rfl (of_if e1).1 (k2 g) (CaX.of en (by omega)) kn_X10_action wm_1243 wm_1244 wm_1245 (rs_ok (Nat.le_of_ble_eq_true rfl)) rfl rfl dL_action_7 ?_
  refine tj_i2l ok dL_action_10 ?_
  refine tj_lastore ok dL_action_11 e3 ?_
  refine tj_goto (tgt := 23) ok dL_action_12 (by decide) ?_
  refine tj_sub (lv' := []) [] rfl ?_
  exact J.2 X g K ok nmx lev hK en
def f_L_action (a0 : Nat) (a1 : Int32) (a2 : Int32) (a3 : Int32) (a4 : Nat) (h : AH) : Option (Int32 × AH) := orE (b_L_action_0 a0 a1 a2 a3 a4 h) ((ok_v h a0 10).bind fun x1 => (x_X10_action a0 a1 a2 a3 h).bind fun q9 => if q9.1 = 12 then some ((1 : Int32), q9.2) else some ((2 : Int32), q9.2))
set_option maxHeartbeats 4000000 in
set_option maxRecDepth 100000 in
theorem c_L_action {a0 : Nat} {a1 : Int32} {a2 : Int32} {a3 : Int32} {a4 : Nat} {h hE : AH} {v : Int32} (hf : f_L_action a0 a1 a2 a3 a4 h = some (v, hE)) : ∀ g : GT, CW g 13 yL_action cL_action 6 (some .int) [(0, 12, 15, 13), (0, 12, 19, 23)] h [.inr (.inr (a0)), .inl (a1), .inl (a2), .inl (a3), .inr (.inr (a4))] hE (some (.inl (v))) := by
  rcases orE_of hf with hf | hf
  · exact CW.ofJ (by decide) (by show _ ≤ 6; exact Nat.le_of_ble_eq_true rfl) (q_L_action_0 hf)
  · obtain ⟨x1, e1, hf⟩ := bnd hf
    obtain ⟨⟨E1, h9⟩, e9, hf⟩ := bnd hf
    dsimp only at hf
    obtain ⟨hE, kx⟩ := cx_X10_action e9
    have mE := (kx default_g).1
    intro g
    by_cases hc : E1 = 12
    · rw [if_pos hc] at hf
      subst hc
      obtain ⟨hv, hh⟩ := Prod.mk.inj (Option.some.inj hf)
      subst hv
      subst hh
      refine CW.of (by decide) (by show _ ≤ 6; exact Nat.le_of_ble_eq_true rfl) (by omega) (fun X ok nmx tb lev en => ?_)
      refine tj_aload ok 4 dL_action_0 rfl ?_
      refine tj_iconst (v := 0) ok dL_action_2 (by decide) ?_
      refine tj_aload_n ok 0 dL_action_3 rfl rfl ?_
      refine tj_iload_n ok 1 dL_action_4 rfl rfl ?_
      refine tj_iload_n ok 2 dL_action_5 rfl rfl ?_
      refine tj_iload_n ok 3 dL_action_6 rfl rfl ?_
      refine tj_catV (rest := ([.inl ((0 : Int32)), .inr (.inr (a4))] : List TV).map (vl g)) (as := [.inl (a1), .inl (a2), .inl (a3)]) ok tb lev (by omega) fcX10.1 (by decide) rfl (of_if e1).1 (kx g) (CaX.of en (by omega)) kn_X10_action wm_1243 wm_1244 wm_1245 (rs_ok (Nat.le_of_ble_eq_true rfl)) rfl dL_action_7 (Or.inl ⟨_, _, rfl, by decide, by decide, rfl, wm_1246, hx_w (lv' := [(0, .inr (.inr (a0))), (1, .inl (a1)), (2, .inl (a2)), (3, .inl (a3)), (4, .inr (.inr (a4)))]) ok dL_action_15 (by decide) rfl ?_⟩)
      refine tj_iconst (v := 1) ok dL_action_17 (by decide) ?_
      exact tj_ireturn ok en dL_action_18
    · rw [if_neg hc] at hf
      have hc13 : E1 = 13 := hE.resolve_left hc
      subst hc13
      obtain ⟨hv, hh⟩ := Prod.mk.inj (Option.some.inj hf)
      subst hv
      subst hh
      refine CW.of (by decide) (by show _ ≤ 6; exact Nat.le_of_ble_eq_true rfl) (by omega) (fun X ok nmx tb lev en => ?_)
      refine tj_aload ok 4 dL_action_0 rfl ?_
      refine tj_iconst (v := 0) ok dL_action_2 (by decide) ?_
      refine tj_aload_n ok 0 dL_action_3 rfl rfl ?_
      refine tj_iload_n ok 1 dL_action_4 rfl rfl ?_
      refine tj_iload_n ok 2 dL_action_5 rfl rfl ?_
      refine tj_iload_n ok 3 dL_action_6 rfl rfl ?_
      refine tj_catV (rest := ([.inl ((0 : Int32)), .inr (.inr (a4))] : List TV).map (vl g)) (as := [.inl (a1), .inl (a2), .inl (a3)]) ok tb lev (by omega) fcX10.1 (by decide) rfl (of_if e1).1 (kx g) (CaX.of en (by omega)) kn_X10_action wm_1243 wm_1244 wm_1245 (rs_ok (Nat.le_of_ble_eq_true rfl)) rfl dL_action_7 (Or.inr ⟨_, _, _, rfl, by decide, by decide, wm_1246, by decide, by decide, rfl, wm_1247, hx_w (lv' := [(0, .inr (.inr (a0))), (1, .inl (a1)), (2, .inl (a2)), (3, .inl (a3)), (4, .inr (.inr (a4)))]) ok dL_action_19 (by decide) rfl ?_⟩)
      refine tj_iconst (v := 2) ok dL_action_21 (by decide) ?_
      exact tj_ireturn ok en dL_action_22
/-! ===== LitmusHouseLaw.allowed(LLitmusHouse;II[J)I ===== -/
theorem kw_L_allowed : Kw yL_allowed cL_allowed 5 (some .int) [(0, 10, 13, 13), (0, 10, 17, 23)] 4 := ⟨wm_1248, wm_1242, by decide +kernel, by decide⟩
def b_L_allowed_21  (h : AH) : Option (Int32 × AH) :=
  some ((0 : Int32), h)
set_option maxHeartbeats 4000000 in
set_option maxRecDepth 100000 in
theorem q_L_allowed_21 {h hE : AH} {v : Int32} (hf : b_L_allowed_21  h = some (v, hE)) : JD cL_allowed 5 RL "allowed" (some .int) (148) 21 [] [] h hE (some (.inl (v))) := by
  unfold b_L_allowed_21 at hf
  obtain ⟨hv, hh⟩ := Prod.mk.inj (Option.some.inj hf)
  subst hv
  subst hh
  have mE : hp_n h ≤ hp_n h ∧ hp_s h ≤ hp_s h := ⟨Nat.le_refl _, Nat.le_refl _⟩
  refine ⟨by omega, fun X g K ok nmx lev hK en => ?_⟩
  refine tj_iconst (v := 0) ok dL_allowed_21 (by decide) ?_
  exact tj_ireturn ok en dL_allowed_22
def b_L_allowed_0 (a0 : Nat) (a1 : Int32) (a2 : Int32) (a3 : Nat) (h : AH) : Option (Int32 × AH) :=
  (ok_v h a0 10).bind fun x1 => (f_X10_allowed a0 a1 a2 h).bind fun q2 => (s_j q2.2 a3 (0 : Int32) q2.1.toInt64).bind fun h3 => b_L_allowed_21 h3
set_option maxHeartbeats 4000000 in
set_option maxRecDepth 100000 in
theorem q_L_allowed_0 {a0 : Nat} {a1 : Int32} {a2 : Int32} {a3 : Nat} {h hE : AH} {v : Int32} (hf : b_L_allowed_0 a0 a1 a2 a3 h = some (v, hE)) : JD cL_allowed 5 RL "allowed" (some .int) (148) 0 [(0, .inr (.inr (a0))), (1, .inl (a1)), (2, .inl (a2)), (3, .inr (.inr (a3)))] [] h hE (some (.inl (v))) := by
  unfold b_L_allowed_0 at hf
  obtain ⟨x1, e1, hf⟩ := bnd hf
  obtain ⟨⟨x2, h2⟩, e2, hf⟩ := bnd hf
  try dsimp only at hf
  have k2 := c_X10_allowed e2
  have m2 := (k2 default_g).1
  obtain ⟨h3, e3, hf⟩ := bnd hf
  have m3 := nn_sj e3
  have J := q_L_allowed_21 hf
  have mE := J.1
  refine ⟨by omega, fun X g K ok nmx lev hK en => ?_⟩
  refine tj_aload_n ok 3 dL_allowed_0 rfl rfl ?_
  refine tj_iconst (v := 0) ok dL_allowed_1 (by decide) ?_
  refine tj_aload_n ok 0 dL_allowed_2 rfl rfl ?_
  refine tj_iload_n ok 1 dL_allowed_3 rfl rfl ?_
  refine tj_iload_n ok 2 dL_allowed_4 rfl rfl ?_
  refine tj_callV (rest := ([.inl ((0 : Int32)), .inr (.inr (a3))] : List TV).map (vl g)) (as := [.inl (a1), .inl (a2)]) ok lev (by omega) fcX10.1 (by decide) rfl (of_if e1).1 (k2 g) (CaX.of en (by omega)) kn_X10_allowed wm_1249 wm_1250 wm_1251 (rs_ok (Nat.le_of_ble_eq_true rfl)) rfl rfl dL_allowed_5 ?_
  refine tj_i2l ok dL_allowed_8 ?_
  refine tj_lastore ok dL_allowed_9 e3 ?_
  refine tj_goto (tgt := 21) ok dL_allowed_10 (by decide) ?_
  refine tj_sub (lv' := []) [] rfl ?_
  exact J.2 X g K ok nmx lev hK en
def f_L_allowed (a0 : Nat) (a1 : Int32) (a2 : Int32) (a3 : Nat) (h : AH) : Option (Int32 × AH) := orE (b_L_allowed_0 a0 a1 a2 a3 h) ((ok_v h a0 10).bind fun x1 => (x_X10_allowed a0 a1 a2 h).bind fun q9 => if q9.1 = 12 then some ((1 : Int32), q9.2) else some ((2 : Int32), q9.2))
set_option maxHeartbeats 4000000 in
set_option maxRecDepth 100000 in
theorem c_L_allowed {a0 : Nat} {a1 : Int32} {a2 : Int32} {a3 : Nat} {h hE : AH} {v : Int32} (hf : f_L_allowed a0 a1 a2 a3 h = some (v, hE)) : ∀ g : GT, CW g 148 yL_allowed cL_allowed 5 (some .int) [(0, 10, 13, 13), (0, 10, 17, 23)] h [.inr (.inr (a0)), .inl (a1), .inl (a2), .inr (.inr (a3))] hE (some (.inl (v))) := by
  rcases orE_of hf with hf | hf
  · exact CW.ofJ (by decide) (by show _ ≤ 5; exact Nat.le_of_ble_eq_true rfl) (q_L_allowed_0 hf)
  · obtain ⟨x1, e1, hf⟩ := bnd hf
    obtain ⟨⟨E1, h9⟩, e9, hf⟩ := bnd hf
    dsimp only at hf
    obtain ⟨hE, kx⟩ := cx_X10_allowed e9
    have mE := (kx default_g).1
    intro g
    by_cases hc : E1 = 12
    · rw [if_pos hc] at hf
      subst hc
      obtain ⟨hv, hh⟩ := Prod.mk.inj (Option.some.inj hf)
      subst hv
      subst hh
      refine CW.of (by decide) (by show _ ≤ 5; exact Nat.le_of_ble_eq_true rfl) (by omega) (fun X ok nmx tb lev en => ?_)
      refine tj_aload_n ok 3 dL_allowed_0 rfl rfl ?_
      refine tj_iconst (v := 0) ok dL_allowed_1 (by decide) ?_
      refine tj_aload_n ok 0 dL_allowed_2 rfl rfl ?_
      refine tj_iload_n ok 1 dL_allowed_3 rfl rfl ?_
      refine tj_iload_n ok 2 dL_allowed_4 rfl rfl ?_
      refine tj_catV (rest := ([.inl ((0 : Int32)), .inr (.inr (a3))] : List TV).map (vl g)) (as := [.inl (a1), .inl (a2)]) ok tb lev (by omega) fcX10.1 (by decide) rfl (of_if e1).1 (kx g) (CaX.of en (by omega)) kn_X10_allowed wm_1249 wm_1250 wm_1251 (rs_ok (Nat.le_of_ble_eq_true rfl)) rfl dL_allowed_5 (Or.inl ⟨_, _, rfl, by decide, by decide, rfl, wm_1246, hx_w (lv' := [(0, .inr (.inr (a0))), (1, .inl (a1)), (2, .inl (a2)), (3, .inr (.inr (a3)))]) ok dL_allowed_13 (by decide) rfl ?_⟩)
      refine tj_iconst (v := 1) ok dL_allowed_15 (by decide) ?_
      exact tj_ireturn ok en dL_allowed_16
    · rw [if_neg hc] at hf
      have hc13 : E1 = 13 := hE.resolve_left hc
      subst hc13
      obtain ⟨hv, hh⟩ := Prod.mk.inj (Option.some.inj hf)
      subst hv
      subst hh
      refine CW.of (by decide) (by show _ ≤ 5; exact Nat.le_of_ble_eq_true rfl) (by omega) (fun X ok nmx tb lev en => ?_)
      refine tj_aload_n ok 3 dL_allowed_0 rfl rfl ?_
      refine tj_iconst (v := 0) ok dL_allowed_1 (by decide) ?_
      refine tj_aload_n ok 0 dL_allowed_2 rfl rfl ?_
      refine tj_iload_n ok 1 dL_allowed_3 rfl rfl ?_
      refine tj_iload_n ok 2 dL_allowed_4 rfl rfl ?_
      refine tj_catV (rest := ([.inl ((0 : Int32)), .inr (.inr (a3))] : List TV).map (vl g)) (as := [.inl (a1), .inl (a2)]) ok tb lev (by omega) fcX10.1 (by decide) rfl (of_if e1).1 (kx g) (CaX.of en (by omega)) kn_X10_allowed wm_1249 wm_1250 wm_1251 (rs_ok (Nat.le_of_ble_eq_true rfl)) rfl dL_allowed_5 (Or.inr ⟨_, _, _, rfl, by decide, by decide, wm_1246, by decide, by decide, rfl, wm_1247, hx_w (lv' := [(0, .inr (.inr (a0))), (1, .inl (a1)), (2, .inl (a2)), (3, .inr (.inr (a3)))]) ok dL_allowed_17 (by decide) rfl ?_⟩)
      refine tj_iconst (v := 2) ok dL_allowed_19 (by decide) ?_
      exact tj_ireturn ok en dL_allowed_20
/-! ===== LitmusHouseLaw.before(LLitmusHouse;III[J)I ===== -/
theorem kw_L_before : Kw yL_before cL_before 6 (some .int) [(0, 12, 15, 13), (0, 12, 19, 23)] 5 := ⟨wm_1252, wm_1242, by decide +kernel, by decide⟩
def b_L_before_23  (h : AH) : Option (Int32 × AH) :=
  some ((0 : Int32), h)
set_option maxHeartbeats 4000000 in
set_option maxRecDepth 100000 in
theorem q_L_before_23 {h hE : AH} {v : Int32} (hf : b_L_before_23  h = some (v, hE)) : JD cL_before 6 RL "before" (some .int) (148) 23 [] [] h hE (some (.inl (v))) := by
  unfold b_L_before_23 at hf
  obtain ⟨hv, hh⟩ := Prod.mk.inj (Option.some.inj hf)
  subst hv
  subst hh
  have mE : hp_n h ≤ hp_n h ∧ hp_s h ≤ hp_s h := ⟨Nat.le_refl _, Nat.le_refl _⟩
  refine ⟨by omega, fun X g K ok nmx lev hK en => ?_⟩
  refine tj_iconst (v := 0) ok dL_before_23 (by decide) ?_
  exact tj_ireturn ok en dL_before_24
def b_L_before_0 (a0 : Nat) (a1 : Int32) (a2 : Int32) (a3 : Int32) (a4 : Nat) (h : AH) : Option (Int32 × AH) :=
  (ok_v h a0 10).bind fun x1 => (f_X10_before a0 a1 a2 a3 h).bind fun q2 => (s_j q2.2 a4 (0 : Int32) q2.1.toInt64).bind fun h3 => b_L_before_23 h3
set_option maxHeartbeats 4000000 in
set_option maxRecDepth 100000 in
theorem q_L_before_0 {a0 : Nat} {a1 : Int32} {a2 : Int32} {a3 : Int32} {a4 : Nat} {h hE : AH} {v : Int32} (hf : b_L_before_0 a0 a1 a2 a3 a4 h = some (v, hE)) : JD cL_before 6 RL "before" (some .int) (148) 0 [(0, .inr (.inr (a0))), (1, .inl (a1)), (2, .inl (a2)), (3, .inl (a3)), (4, .inr (.inr (a4)))] [] h hE (some (.inl (v))) := by
  unfold b_L_before_0 at hf
  obtain ⟨x1, e1, hf⟩ := bnd hf
  obtain ⟨⟨x2, h2⟩, e2, hf⟩ := bnd hf
  try dsimp only at hf
  have k2 := c_X10_before e2
  have m2 := (k2 default_g).1
  obtain ⟨h3, e3, hf⟩ := bnd hf
  have m3 := nn_sj e3
  have J := q_L_before_23 hf
  have mE := J.1
  refine ⟨by omega, fun X g K ok nmx lev hK en => ?_⟩
  refine tj_aload ok 4 dL_before_0 rfl ?_
  refine tj_iconst (v := 0) ok dL_before_2 (by decide) ?_
  refine tj_aload_n ok 0 dL_before_3 rfl rfl ?_
  refine tj_iload_n ok 1 dL_before_4 rfl rfl ?_
  refine tj_iload_n ok 2 dL_before_5 rfl rfl ?_
  refine tj_iload_n ok 3 dL_before_6 rfl rfl ?_
  refine tj_callV (rest := ([.inl ((0 : Int32)), .inr (.inr (a4))] : List TV).map (vl g)) (as := [.inl (a1), .inl (a2), .inl (a3)]) ok lev (by omega) fcX10.1 (by decide) rfl (of_if e1).1 (k2 g) (CaX.of en (by omega)) kn_X10_before wm_1253 wm_1254 wm_1255 (rs_ok (Nat.le_of_ble_eq_true rfl)) rfl rfl dL_before_7 ?_
  refine tj_i2l ok dL_before_10 ?_
  refine tj_lastore ok dL_before_11 e3 ?_
  refine tj_goto (tgt := 23) ok dL_before_12 (by decide) ?_
  refine tj_sub (lv' := []) [] rfl ?_
  exact J.2 X g K ok nmx lev hK en
def f_L_before (a0 : Nat) (a1 : Int32) (a2 : Int32) (a3 : Int32) (a4 : Nat) (h : AH) : Option (Int32 × AH) := orE (b_L_before_0 a0 a1 a2 a3 a4 h) ((ok_v h a0 10).bind fun x1 => (x_X10_before a0 a1 a2 a3 h).bind fun q9 => if q9.1 = 12 then some ((1 : Int32), q9.2) else some ((2 : Int32), q9.2))
set_option maxHeartbeats 4000000 in
set_option maxRecDepth 100000 in
theorem c_L_before {a0 : Nat} {a1 : Int32} {a2 : Int32} {a3 : Int32} {a4 : Nat} {h hE : AH} {v : Int32} (hf : f_L_before a0 a1 a2 a3 a4 h = some (v, hE)) : ∀ g : GT, CW g 148 yL_before cL_before 6 (some .int) [(0, 12, 15, 13), (0, 12, 19, 23)] h [.inr (.inr (a0)), .inl (a1), .inl (a2), .inl (a3), .inr (.inr (a4))] hE (some (.inl (v))) := by
  rcases orE_of hf with hf | hf
  · exact CW.ofJ (by decide) (by show _ ≤ 6; exact Nat.le_of_ble_eq_true rfl) (q_L_before_0 hf)
  · obtain ⟨x1, e1, hf⟩ := bnd hf
    obtain ⟨⟨E1, h9⟩, e9, hf⟩ := bnd hf
    dsimp only at hf
    obtain ⟨hE, kx⟩ := cx_X10_before e9
    have mE := (kx default_g).1
    intro g
    by_cases hc : E1 = 12
    · rw [if_pos hc] at hf
      subst hc
      obtain ⟨hv, hh⟩ := Prod.mk.inj (Option.some.inj hf)
      subst hv
      subst hh
      refine CW.of (by decide) (by show _ ≤ 6; exact Nat.le_of_ble_eq_true rfl) (by omega) (fun X ok nmx tb lev en => ?_)
      refine tj_aload ok 4 dL_before_0 rfl ?_
      refine tj_iconst (v := 0) ok dL_before_2 (by decide) ?_
      refine tj_aload_n ok 0 dL_before_3 rfl rfl ?_
      refine tj_iload_n ok 1 dL_before_4 rfl rfl ?_
      refine tj_iload_n ok 2 dL_before_5 rfl rfl ?_
      refine tj_iload_n ok 3 dL_before_6 rfl rfl ?_
      refine tj_catV (rest := ([.inl ((0 : Int32)), .inr (.inr (a4))] : List TV).map (vl g)) (as := [.inl (a1), .inl (a2), .inl (a3)]) ok tb lev (by omega) fcX10.1 (by decide) rfl (of_if e1).1 (kx g) (CaX.of en (by omega)) kn_X10_before wm_1253 wm_1254 wm_1255 (rs_ok (Nat.le_of_ble_eq_true rfl)) rfl dL_before_7 (Or.inl ⟨_, _, rfl, by decide, by decide, rfl, wm_1246, hx_w (lv' := [(0, .inr (.inr (a0))), (1, .inl (a1)), (2, .inl (a2)), (3, .inl (a3)), (4, .inr (.inr (a4)))]) ok dL_before_15 (by decide) rfl ?_⟩)
      refine tj_iconst (v := 1) ok dL_before_17 (by decide) ?_
      exact tj_ireturn ok en dL_before_18
    · rw [if_neg hc] at hf
      have hc13 : E1 = 13 := hE.resolve_left hc
      subst hc13
      obtain ⟨hv, hh⟩ := Prod.mk.inj (Option.some.inj hf)
      subst hv
      subst hh
      refine CW.of (by decide) (by show _ ≤ 6; exact Nat.le_of_ble_eq_true rfl) (by omega) (fun X ok nmx tb lev en => ?_)
      refine tj_aload ok 4 dL_before_0 rfl ?_
      refine tj_iconst (v := 0) ok dL_before_2 (by decide) ?_
      refine tj_aload_n ok 0 dL_before_3 rfl rfl ?_
      refine tj_iload_n ok 1 dL_before_4 rfl rfl ?_
      refine tj_iload_n ok 2 dL_before_5 rfl rfl ?_
      refine tj_iload_n ok 3 dL_before_6 rfl rfl ?_
      refine tj_catV (rest := ([.inl ((0 : Int32)), .inr (.inr (a4))] : List TV).map (vl g)) (as := [.inl (a1), .inl (a2), .inl (a3)]) ok tb lev (by omega) fcX10.1 (by decide) rfl (of_if e1).1 (kx g) (CaX.of en (by omega)) kn_X10_before wm_1253 wm_1254 wm_1255 (rs_ok (Nat.le_of_ble_eq_true rfl)) rfl dL_before_7 (Or.inr ⟨_, _, _, rfl, by decide, by decide, wm_1246, by decide, by decide, rfl, wm_1247, hx_w (lv' := [(0, .inr (.inr (a0))), (1, .inl (a1)), (2, .inl (a2)), (3, .inl (a3)), (4, .inr (.inr (a4)))]) ok dL_before_19 (by decide) rfl ?_⟩)
      refine tj_iconst (v := 2) ok dL_before_21 (by decide) ?_
      exact tj_ireturn ok en dL_before_22
/-! ===== LitmusHouseLaw.drop(LLitmusHouse;I[J)I ===== -/
theorem kw_L_drop : Kw yL_drop cL_drop 4 (some .int) [(0, 16, 19, 13)] 3 := ⟨wm_1256, wm_1242, by decide +kernel, by decide⟩
def b_L_drop_22  (h : AH) : Option (Int32 × AH) :=
  some ((0 : Int32), h)
set_option maxHeartbeats 4000000 in
set_option maxRecDepth 100000 in
theorem q_L_drop_22 {h hE : AH} {v : Int32} (hf : b_L_drop_22  h = some (v, hE)) : JD cL_drop 4 RL "drop" (some .int) (13) 22 [] [] h hE (some (.inl (v))) := by
  unfold b_L_drop_22 at hf
  obtain ⟨hv, hh⟩ := Prod.mk.inj (Option.some.inj hf)
  subst hv
  subst hh
  have mE : hp_n h ≤ hp_n h ∧ hp_s h ≤ hp_s h := ⟨Nat.le_refl _, Nat.le_refl _⟩
  refine ⟨by omega, fun X g K ok nmx lev hK en => ?_⟩
  refine tj_iconst (v := 0) ok dL_drop_22 (by decide) ?_
  exact tj_ireturn ok en dL_drop_23
def b_L_drop_15 (s0 : Nat) (s1 : Int32) (s2 : Int64) (h : AH) : Option (Int32 × AH) :=
  (s_j h s0 s1 s2).bind fun h1 => b_L_drop_22 h1
set_option maxHeartbeats 4000000 in
set_option maxRecDepth 100000 in
theorem q_L_drop_15 {s0 : Nat} {s1 : Int32} {s2 : Int64} {h hE : AH} {v : Int32} (hf : b_L_drop_15 s0 s1 s2 h = some (v, hE)) : JD cL_drop 4 RL "drop" (some .int) (13) 15 [] [.inr (.inl (s2)), .inl (s1), .inr (.inr (s0))] h hE (some (.inl (v))) := by
  unfold b_L_drop_15 at hf
  obtain ⟨h1, e1, hf⟩ := bnd hf
  have m1 := nn_sj e1
  have J := q_L_drop_22 hf
  have mE := J.1
  refine ⟨by omega, fun X g K ok nmx lev hK en => ?_⟩
  refine tj_lastore ok dL_drop_15 e1 ?_
  refine tj_goto (tgt := 22) ok dL_drop_16 (by decide) ?_
  exact J.2 X g K ok nmx lev hK en
def b_L_drop_14 (s0 : Nat) (s1 : Int32) (h : AH) : Option (Int32 × AH) :=
  b_L_drop_15 s0 s1 (0 : Int64) h
set_option maxHeartbeats 4000000 in
set_option maxRecDepth 100000 in
theorem q_L_drop_14 {s0 : Nat} {s1 : Int32} {h hE : AH} {v : Int32} (hf : b_L_drop_14 s0 s1 h = some (v, hE)) : JD cL_drop 4 RL "drop" (some .int) (13) 14 [] [.inl (s1), .inr (.inr (s0))] h hE (some (.inl (v))) := by
  unfold b_L_drop_14 at hf
  have J := q_L_drop_15 hf
  have mE := J.1
  refine ⟨by omega, fun X g K ok nmx lev hK en => ?_⟩
  refine tj_lconst (v := 0) ok dL_drop_14 (by decide) ?_
  exact J.2 X g K ok nmx lev hK en
def b_L_drop_10 (s0 : Nat) (s1 : Int32) (h : AH) : Option (Int32 × AH) :=
  b_L_drop_15 s0 s1 (1 : Int64) h
set_option maxHeartbeats 4000000 in
set_option maxRecDepth 100000 in
theorem q_L_drop_10 {s0 : Nat} {s1 : Int32} {h hE : AH} {v : Int32} (hf : b_L_drop_10 s0 s1 h = some (v, hE)) : JD cL_drop 4 RL "drop" (some .int) (13) 10 [] [.inl (s1), .inr (.inr (s0))] h hE (some (.inl (v))) := by
  unfold b_L_drop_10 at hf
  have J := q_L_drop_15 hf
  have mE := J.1
  refine ⟨by omega, fun X g K ok nmx lev hK en => ?_⟩
  refine tj_lconst (v := 1) ok dL_drop_10 (by decide) ?_
  refine tj_goto (tgt := 15) ok dL_drop_11 (by decide) ?_
  exact J.2 X g K ok nmx lev hK en
def b_L_drop_0 (a0 : Nat) (a1 : Int32) (a2 : Nat) (h : AH) : Option (Int32 × AH) :=
  (ok_v h a0 10).bind fun x1 => (f_X10_drop a0 a1 h).bind fun q2 => if q2.1 = 0 then b_L_drop_14 a2 (0 : Int32) q2.2 else b_L_drop_10 a2 (0 : Int32) q2.2
set_option maxHeartbeats 4000000 in
set_option maxRecDepth 100000 in
theorem q_L_drop_0 {a0 : Nat} {a1 : Int32} {a2 : Nat} {h hE : AH} {v : Int32} (hf : b_L_drop_0 a0 a1 a2 h = some (v, hE)) : JD cL_drop 4 RL "drop" (some .int) (13) 0 [(0, .inr (.inr (a0))), (1, .inl (a1)), (2, .inr (.inr (a2)))] [] h hE (some (.inl (v))) := by
  unfold b_L_drop_0 at hf
  obtain ⟨x1, e1, hf⟩ := bnd hf
  obtain ⟨⟨x2, h2⟩, e2, hf⟩ := bnd hf
  try dsimp only at hf
  have k2 := c_X10_drop e2
  have m2 := (k2 default_g).1
  have mE : hp_n h2 ≤ hp_n hE ∧ hp_s h2 ≤ hp_s hE := by
    by_cases hc : x2 = 0
    · rw [if_pos hc] at hf; exact (q_L_drop_14 hf).1
    · rw [if_neg hc] at hf; exact (q_L_drop_10 hf).1
  refine ⟨by omega, fun X g K ok nmx lev hK en => ?_⟩
  refine tj_aload_n ok 2 dL_drop_0 rfl rfl ?_
  refine tj_iconst (v := 0) ok dL_drop_1 (by decide) ?_
  refine tj_aload_n ok 0 dL_drop_2 rfl rfl ?_
  refine tj_iload_n ok 1 dL_drop_3 rfl rfl ?_
  refine tj_callV (rest := ([.inl ((0 : Int32)), .inr (.inr (a2))] : List TV).map (vl g)) (as := [.inl (a1)]) ok lev (by omega) fcX10.1 (by decide) rfl (of_if e1).1 (k2 g) (CaX.of en (by omega)) kn_X10_drop wm_1257 wm_1258 wm_1259 (rs_ok (Nat.le_of_ble_eq_true rfl)) rfl rfl dL_drop_4 ?_
  refine tj_if_eq (tgt := 14) ok dL_drop_7 (by decide) (fun hc => ?_) (fun hc => ?_)
  · rw [if_pos hc] at hf
    refine tj_sub (lv' := []) [] rfl ?_
    exact (q_L_drop_14 hf).2 X g K ok nmx lev hK en
  · rw [if_neg hc] at hf
    refine tj_sub (lv' := []) [] rfl ?_
    exact (q_L_drop_10 hf).2 X g K ok nmx lev hK en
def f_L_drop (a0 : Nat) (a1 : Int32) (a2 : Nat) (h : AH) : Option (Int32 × AH) := orE (b_L_drop_0 a0 a1 a2 h) ((ok_v h a0 10).bind fun x1 => (x_X10_drop a0 a1 h).bind fun q9 => if q9.1 = 12 then some ((1 : Int32), q9.2) else none)
set_option maxHeartbeats 4000000 in
set_option maxRecDepth 100000 in
theorem c_L_drop {a0 : Nat} {a1 : Int32} {a2 : Nat} {h hE : AH} {v : Int32} (hf : f_L_drop a0 a1 a2 h = some (v, hE)) : ∀ g : GT, CW g 13 yL_drop cL_drop 4 (some .int) [(0, 16, 19, 13)] h [.inr (.inr (a0)), .inl (a1), .inr (.inr (a2))] hE (some (.inl (v))) := by
  rcases orE_of hf with hf | hf
  · exact CW.ofJ (by decide) (by show _ ≤ 4; exact Nat.le_of_ble_eq_true rfl) (q_L_drop_0 hf)
  · obtain ⟨x1, e1, hf⟩ := bnd hf
    obtain ⟨⟨E1, h9⟩, e9, hf⟩ := bnd hf
    dsimp only at hf
    obtain ⟨hE, kx⟩ := cx_X10_drop e9
    have mE := (kx default_g).1
    intro g
    by_cases hc : E1 = 12
    · rw [if_pos hc] at hf
      subst hc
      obtain ⟨hv, hh⟩ := Prod.mk.inj (Option.some.inj hf)
      subst hv
      subst hh
      refine CW.of (by decide) (by show _ ≤ 4; exact Nat.le_of_ble_eq_true rfl) (by omega) (fun X ok nmx tb lev en => ?_)
      refine tj_aload_n ok 2 dL_drop_0 rfl rfl ?_
      refine tj_iconst (v := 0) ok dL_drop_1 (by decide) ?_
      refine tj_aload_n ok 0 dL_drop_2 rfl rfl ?_
      refine tj_iload_n ok 1 dL_drop_3 rfl rfl ?_
      refine tj_catV (rest := ([.inl ((0 : Int32)), .inr (.inr (a2))] : List TV).map (vl g)) (as := [.inl (a1)]) ok tb lev (by omega) fcX10.1 (by decide) rfl (of_if e1).1 (kx g) (CaX.of en (by omega)) kn_X10_drop wm_1257 wm_1258 wm_1259 (rs_ok (Nat.le_of_ble_eq_true rfl)) rfl dL_drop_4 (Or.inl ⟨_, _, rfl, by decide, by decide, rfl, wm_1246, hx_n (lv' := [(0, .inr (.inr (a0))), (1, .inl (a1)), (2, .inr (.inr (a2)))]) ok dL_drop_19 rfl (by decide) rfl ?_⟩)
      refine tj_iconst (v := 1) ok dL_drop_20 (by decide) ?_
      exact tj_ireturn ok en dL_drop_21
    · rw [if_neg hc] at hf
      cases hf
/-! ===== LitmusHouseLaw.fence(LLitmusHouse;II[J)I ===== -/
theorem kw_L_fence : Kw yL_fence cL_fence 5 (some .int) [(0, 10, 13, 13), (0, 10, 17, 23)] 4 := ⟨wm_1260, wm_1242, by decide +kernel, by decide⟩
def b_L_fence_21  (h : AH) : Option (Int32 × AH) :=
  some ((0 : Int32), h)
set_option maxHeartbeats 4000000 in
set_option maxRecDepth 100000 in
theorem q_L_fence_21 {h hE : AH} {v : Int32} (hf : b_L_fence_21  h = some (v, hE)) : JD cL_fence 5 RL "fence" (some .int) (148) 21 [] [] h hE (some (.inl (v))) := by
  unfold b_L_fence_21 at hf
  obtain ⟨hv, hh⟩ := Prod.mk.inj (Option.some.inj hf)
  subst hv
  subst hh
  have mE : hp_n h ≤ hp_n h ∧ hp_s h ≤ hp_s h := ⟨Nat.le_refl _, Nat.le_refl _⟩
  refine ⟨by omega, fun X g K ok nmx lev hK en => ?_⟩
  refine tj_iconst (v := 0) ok dL_fence_21 (by decide) ?_
  exact tj_ireturn ok en dL_fence_22
def b_L_fence_0 (a0 : Nat) (a1 : Int32) (a2 : Int32) (a3 : Nat) (h : AH) : Option (Int32 × AH) :=
  (ok_v h a0 10).bind fun x1 => (f_X10_fence a0 a1 a2 h).bind fun q2 => (s_j q2.2 a3 (0 : Int32) q2.1.toInt64).bind fun h3 => b_L_fence_21 h3
set_option maxHeartbeats 4000000 in
set_option maxRecDepth 100000 in
theorem q_L_fence_0 {a0 : Nat} {a1 : Int32} {a2 : Int32} {a3 : Nat} {h hE : AH} {v : Int32} (hf : b_L_fence_0 a0 a1 a2 a3 h = some (v, hE)) : JD cL_fence 5 RL "fence" (some .int) (148) 0 [(0, .inr (.inr (a0))), (1, .inl (a1)), (2, .inl (a2)), (3, .inr (.inr (a3)))] [] h hE (some (.inl (v))) := by
  unfold b_L_fence_0 at hf
  obtain ⟨x1, e1, hf⟩ := bnd hf
  obtain ⟨⟨x2, h2⟩, e2, hf⟩ := bnd hf
  try dsimp only at hf
  have k2 := c_X10_fence e2
  have m2 := (k2 default_g).1
  obtain ⟨h3, e3, hf⟩ := bnd hf
  have m3 := nn_sj e3
  have J := q_L_fence_21 hf
  have mE := J.1
  refine ⟨by omega, fun X g K ok nmx lev hK en => ?_⟩
  refine tj_aload_n ok 3 dL_fence_0 rfl rfl ?_
  refine tj_iconst (v := 0) ok dL_fence_1 (by decide) ?_
  refine tj_aload_n ok 0 dL_fence_2 rfl rfl ?_
  refine tj_iload_n ok 1 dL_fence_3 rfl rfl ?_
  refine tj_iload_n ok 2 dL_fence_4 rfl rfl ?_
  refine tj_callV (rest := ([.inl ((0 : Int32)), .inr (.inr (a3))] : List TV).map (vl g)) (as := [.inl (a1), .inl (a2)]) ok lev (by omega) fcX10.1 (by decide) rfl (of_if e1).1 (k2 g) (CaX.of en (by omega)) kn_X10_fence wm_1261 wm_1262 wm_1263 (rs_ok (Nat.le_of_ble_eq_true rfl)) rfl rfl dL_fence_5 ?_
  refine tj_i2l ok dL_fence_8 ?_
  refine tj_lastore ok dL_fence_9 e3 ?_
  refine tj_goto (tgt := 21) ok dL_fence_10 (by decide) ?_
  refine tj_sub (lv' := []) [] rfl ?_
  exact J.2 X g K ok nmx lev hK en
def f_L_fence (a0 : Nat) (a1 : Int32) (a2 : Int32) (a3 : Nat) (h : AH) : Option (Int32 × AH) := orE (b_L_fence_0 a0 a1 a2 a3 h) ((ok_v h a0 10).bind fun x1 => (x_X10_fence a0 a1 a2 h).bind fun q9 => if q9.1 = 12 then some ((1 : Int32), q9.2) else some ((2 : Int32), q9.2))
set_option maxHeartbeats 4000000 in
set_option maxRecDepth 100000 in
theorem c_L_fence {a0 : Nat} {a1 : Int32} {a2 : Int32} {a3 : Nat} {h hE : AH} {v : Int32} (hf : f_L_fence a0 a1 a2 a3 h = some (v, hE)) : ∀ g : GT, CW g 148 yL_fence cL_fence 5 (some .int) [(0, 10, 13, 13), (0, 10, 17, 23)] h [.inr (.inr (a0)), .inl (a1), .inl (a2), .inr (.inr (a3))] hE (some (.inl (v))) := by
  rcases orE_of hf with hf | hf
  · exact CW.ofJ (by decide) (by show _ ≤ 5; exact Nat.le_of_ble_eq_true rfl) (q_L_fence_0 hf)
  · obtain ⟨x1, e1, hf⟩ := bnd hf
    obtain ⟨⟨E1, h9⟩, e9, hf⟩ := bnd hf
    dsimp only at hf
    obtain ⟨hE, kx⟩ := cx_X10_fence e9
    have mE := (kx default_g).1
    intro g
    by_cases hc : E1 = 12
    · rw [if_pos hc] at hf
      subst hc
      obtain ⟨hv, hh⟩ := Prod.mk.inj (Option.some.inj hf)
      subst hv
      subst hh
      refine CW.of (by decide) (by show _ ≤ 5; exact Nat.le_of_ble_eq_true rfl) (by omega) (fun X ok nmx tb lev en => ?_)
      refine tj_aload_n ok 3 dL_fence_0 rfl rfl ?_
      refine tj_iconst (v := 0) ok dL_fence_1 (by decide) ?_
      refine tj_aload_n ok 0 dL_fence_2 rfl rfl ?_
      refine tj_iload_n ok 1 dL_fence_3 rfl rfl ?_
      refine tj_iload_n ok 2 dL_fence_4 rfl rfl ?_
      refine tj_catV (rest := ([.inl ((0 : Int32)), .inr (.inr (a3))] : List TV).map (vl g)) (as := [.inl (a1), .inl (a2)]) ok tb lev (by omega) fcX10.1 (by decide) rfl (of_if e1).1 (kx g) (CaX.of en (by omega)) kn_X10_fence wm_1261 wm_1262 wm_1263 (rs_ok (Nat.le_of_ble_eq_true rfl)) rfl dL_fence_5 (Or.inl ⟨_, _, rfl, by decide, by decide, rfl, wm_1246, hx_w (lv' := [(0, .inr (.inr (a0))), (1, .inl (a1)), (2, .inl (a2)), (3, .inr (.inr (a3)))]) ok dL_fence_13 (by decide) rfl ?_⟩)
      refine tj_iconst (v := 1) ok dL_fence_15 (by decide) ?_
      exact tj_ireturn ok en dL_fence_16
    · rw [if_neg hc] at hf
      have hc13 : E1 = 13 := hE.resolve_left hc
      subst hc13
      obtain ⟨hv, hh⟩ := Prod.mk.inj (Option.some.inj hf)
      subst hv
      subst hh
      refine CW.of (by decide) (by show _ ≤ 5; exact Nat.le_of_ble_eq_true rfl) (by omega) (fun X ok nmx tb lev en => ?_)
      refine tj_aload_n ok 3 dL_fence_0 rfl rfl ?_
      refine tj_iconst (v := 0) ok dL_fence_1 (by decide) ?_
      refine tj_aload_n ok 0 dL_fence_2 rfl rfl ?_
      refine tj_iload_n ok 1 dL_fence_3 rfl rfl ?_
      refine tj_iload_n ok 2 dL_fence_4 rfl rfl ?_
      refine tj_catV (rest := ([.inl ((0 : Int32)), .inr (.inr (a3))] : List TV).map (vl g)) (as := [.inl (a1), .inl (a2)]) ok tb lev (by omega) fcX10.1 (by decide) rfl (of_if e1).1 (kx g) (CaX.of en (by omega)) kn_X10_fence wm_1261 wm_1262 wm_1263 (rs_ok (Nat.le_of_ble_eq_true rfl)) rfl dL_fence_5 (Or.inr ⟨_, _, _, rfl, by decide, by decide, wm_1246, by decide, by decide, rfl, wm_1247, hx_w (lv' := [(0, .inr (.inr (a0))), (1, .inl (a1)), (2, .inl (a2)), (3, .inr (.inr (a3)))]) ok dL_fence_17 (by decide) rfl ?_⟩)
      refine tj_iconst (v := 2) ok dL_fence_19 (by decide) ?_
      exact tj_ireturn ok en dL_fence_20
/-! ===== LitmusHouseLaw.kind(LLitmusHouse;II[J)I ===== -/
theorem kw_L_kind : Kw yL_kind cL_kind 5 (some .int) [(0, 10, 13, 13), (0, 10, 17, 23)] 4 := ⟨wm_1264, wm_1242, by decide +kernel, by decide⟩
def b_L_kind_21  (h : AH) : Option (Int32 × AH) :=
  some ((0 : Int32), h)
set_option maxHeartbeats 4000000 in
set_option maxRecDepth 100000 in
theorem q_L_kind_21 {h hE : AH} {v : Int32} (hf : b_L_kind_21  h = some (v, hE)) : JD cL_kind 5 RL "kind" (some .int) (13) 21 [] [] h hE (some (.inl (v))) := by
  unfold b_L_kind_21 at hf
  obtain ⟨hv, hh⟩ := Prod.mk.inj (Option.some.inj hf)
  subst hv
  subst hh
  have mE : hp_n h ≤ hp_n h ∧ hp_s h ≤ hp_s h := ⟨Nat.le_refl _, Nat.le_refl _⟩
  refine ⟨by omega, fun X g K ok nmx lev hK en => ?_⟩
  refine tj_iconst (v := 0) ok dL_kind_21 (by decide) ?_
  exact tj_ireturn ok en dL_kind_22
def b_L_kind_0 (a0 : Nat) (a1 : Int32) (a2 : Int32) (a3 : Nat) (h : AH) : Option (Int32 × AH) :=
  (ok_v h a0 10).bind fun x1 => (f_X10_kind a0 a1 a2 h).bind fun q2 => (s_j q2.2 a3 (0 : Int32) q2.1.toInt64).bind fun h3 => b_L_kind_21 h3
set_option maxHeartbeats 4000000 in
set_option maxRecDepth 100000 in
theorem q_L_kind_0 {a0 : Nat} {a1 : Int32} {a2 : Int32} {a3 : Nat} {h hE : AH} {v : Int32} (hf : b_L_kind_0 a0 a1 a2 a3 h = some (v, hE)) : JD cL_kind 5 RL "kind" (some .int) (13) 0 [(0, .inr (.inr (a0))), (1, .inl (a1)), (2, .inl (a2)), (3, .inr (.inr (a3)))] [] h hE (some (.inl (v))) := by
  unfold b_L_kind_0 at hf
  obtain ⟨x1, e1, hf⟩ := bnd hf
  obtain ⟨⟨x2, h2⟩, e2, hf⟩ := bnd hf
  try dsimp only at hf
  have k2 := c_X10_kind e2
  have m2 := (k2 default_g).1
  obtain ⟨h3, e3, hf⟩ := bnd hf
  have m3 := nn_sj e3
  have J := q_L_kind_21 hf
  have mE := J.1
  refine ⟨by omega, fun X g K ok nmx lev hK en => ?_⟩
  refine tj_aload_n ok 3 dL_kind_0 rfl rfl ?_
  refine tj_iconst (v := 0) ok dL_kind_1 (by decide) ?_
  refine tj_aload_n ok 0 dL_kind_2 rfl rfl ?_
  refine tj_iload_n ok 1 dL_kind_3 rfl rfl ?_
  refine tj_iload_n ok 2 dL_kind_4 rfl rfl ?_
  refine tj_callV (rest := ([.inl ((0 : Int32)), .inr (.inr (a3))] : List TV).map (vl g)) (as := [.inl (a1), .inl (a2)]) ok lev (by omega) fcX10.1 (by decide) rfl (of_if e1).1 (k2 g) (CaX.of en (by omega)) kn_X10_kind wm_1265 wm_1266 wm_1267 (rs_ok (Nat.le_of_ble_eq_true rfl)) rfl rfl dL_kind_5 ?_
  refine tj_i2l ok dL_kind_8 ?_
  refine tj_lastore ok dL_kind_9 e3 ?_
  refine tj_goto (tgt := 21) ok dL_kind_10 (by decide) ?_
  refine tj_sub (lv' := []) [] rfl ?_
  exact J.2 X g K ok nmx lev hK en
def f_L_kind (a0 : Nat) (a1 : Int32) (a2 : Int32) (a3 : Nat) (h : AH) : Option (Int32 × AH) := orE (b_L_kind_0 a0 a1 a2 a3 h) ((ok_v h a0 10).bind fun x1 => (x_X10_kind a0 a1 a2 h).bind fun q9 => if q9.1 = 12 then some ((1 : Int32), q9.2) else some ((2 : Int32), q9.2))
set_option maxHeartbeats 4000000 in
set_option maxRecDepth 100000 in
theorem c_L_kind {a0 : Nat} {a1 : Int32} {a2 : Int32} {a3 : Nat} {h hE : AH} {v : Int32} (hf : f_L_kind a0 a1 a2 a3 h = some (v, hE)) : ∀ g : GT, CW g 13 yL_kind cL_kind 5 (some .int) [(0, 10, 13, 13), (0, 10, 17, 23)] h [.inr (.inr (a0)), .inl (a1), .inl (a2), .inr (.inr (a3))] hE (some (.inl (v))) := by
  rcases orE_of hf with hf | hf
  · exact CW.ofJ (by decide) (by show _ ≤ 5; exact Nat.le_of_ble_eq_true rfl) (q_L_kind_0 hf)
  · obtain ⟨x1, e1, hf⟩ := bnd hf
    obtain ⟨⟨E1, h9⟩, e9, hf⟩ := bnd hf
    dsimp only at hf
    obtain ⟨hE, kx⟩ := cx_X10_kind e9
    have mE := (kx default_g).1
    intro g
    by_cases hc : E1 = 12
    · rw [if_pos hc] at hf
      subst hc
      obtain ⟨hv, hh⟩ := Prod.mk.inj (Option.some.inj hf)
      subst hv
      subst hh
      refine CW.of (by decide) (by show _ ≤ 5; exact Nat.le_of_ble_eq_true rfl) (by omega) (fun X ok nmx tb lev en => ?_)
      refine tj_aload_n ok 3 dL_kind_0 rfl rfl ?_
      refine tj_iconst (v := 0) ok dL_kind_1 (by decide) ?_
      refine tj_aload_n ok 0 dL_kind_2 rfl rfl ?_
      refine tj_iload_n ok 1 dL_kind_3 rfl rfl ?_
      refine tj_iload_n ok 2 dL_kind_4 rfl rfl ?_
      refine tj_catV (rest := ([.inl ((0 : Int32)), .inr (.inr (a3))] : List TV).map (vl g)) (as := [.inl (a1), .inl (a2)]) ok tb lev (by omega) fcX10.1 (by decide) rfl (of_if e1).1 (kx g) (CaX.of en (by omega)) kn_X10_kind wm_1265 wm_1266 wm_1267 (rs_ok (Nat.le_of_ble_eq_true rfl)) rfl dL_kind_5 (Or.inl ⟨_, _, rfl, by decide, by decide, rfl, wm_1246, hx_w (lv' := [(0, .inr (.inr (a0))), (1, .inl (a1)), (2, .inl (a2)), (3, .inr (.inr (a3)))]) ok dL_kind_13 (by decide) rfl ?_⟩)
      refine tj_iconst (v := 1) ok dL_kind_15 (by decide) ?_
      exact tj_ireturn ok en dL_kind_16
    · rw [if_neg hc] at hf
      have hc13 : E1 = 13 := hE.resolve_left hc
      subst hc13
      obtain ⟨hv, hh⟩ := Prod.mk.inj (Option.some.inj hf)
      subst hv
      subst hh
      refine CW.of (by decide) (by show _ ≤ 5; exact Nat.le_of_ble_eq_true rfl) (by omega) (fun X ok nmx tb lev en => ?_)
      refine tj_aload_n ok 3 dL_kind_0 rfl rfl ?_
      refine tj_iconst (v := 0) ok dL_kind_1 (by decide) ?_
      refine tj_aload_n ok 0 dL_kind_2 rfl rfl ?_
      refine tj_iload_n ok 1 dL_kind_3 rfl rfl ?_
      refine tj_iload_n ok 2 dL_kind_4 rfl rfl ?_
      refine tj_catV (rest := ([.inl ((0 : Int32)), .inr (.inr (a3))] : List TV).map (vl g)) (as := [.inl (a1), .inl (a2)]) ok tb lev (by omega) fcX10.1 (by decide) rfl (of_if e1).1 (kx g) (CaX.of en (by omega)) kn_X10_kind wm_1265 wm_1266 wm_1267 (rs_ok (Nat.le_of_ble_eq_true rfl)) rfl dL_kind_5 (Or.inr ⟨_, _, _, rfl, by decide, by decide, wm_1246, by decide, by decide, rfl, wm_1247, hx_w (lv' := [(0, .inr (.inr (a0))), (1, .inl (a1)), (2, .inl (a2)), (3, .inr (.inr (a3)))]) ok dL_kind_17 (by decide) rfl ?_⟩)
      refine tj_iconst (v := 2) ok dL_kind_19 (by decide) ?_
      exact tj_ireturn ok en dL_kind_20
/-! ===== LitmusHouseLaw.load(LLitmusHouse;I[J)I ===== -/
theorem kw_L_load : Kw yL_load cL_load 4 (some .int) [(0, 9, 12, 13)] 3 := ⟨wm_1268, wm_1242, by decide +kernel, by decide⟩
def b_L_load_15  (h : AH) : Option (Int32 × AH) :=
  some ((0 : Int32), h)
set_option maxHeartbeats 4000000 in
set_option maxRecDepth 100000 in
theorem q_L_load_15 {h hE : AH} {v : Int32} (hf : b_L_load_15  h = some (v, hE)) : JD cL_load 4 RL "load" (some .int) (171) 15 [] [] h hE (some (.inl (v))) := by
  unfold b_L_load_15 at hf
  obtain ⟨hv, hh⟩ := Prod.mk.inj (Option.some.inj hf)
  subst hv
  subst hh
  have mE : hp_n h ≤ hp_n h ∧ hp_s h ≤ hp_s h := ⟨Nat.le_refl _, Nat.le_refl _⟩
  refine ⟨by omega, fun X g K ok nmx lev hK en => ?_⟩
  refine tj_iconst (v := 0) ok dL_load_15 (by decide) ?_
  exact tj_ireturn ok en dL_load_16
def b_L_load_0 (a0 : Nat) (a1 : Int32) (a2 : Nat) (h : AH) : Option (Int32 × AH) :=
  (ok_v h a0 10).bind fun x1 => (f_X10_load a0 a1 h).bind fun q2 => (s_j q2.2 a2 (0 : Int32) q2.1.toInt64).bind fun h3 => b_L_load_15 h3
set_option maxHeartbeats 4000000 in
set_option maxRecDepth 100000 in
theorem q_L_load_0 {a0 : Nat} {a1 : Int32} {a2 : Nat} {h hE : AH} {v : Int32} (hf : b_L_load_0 a0 a1 a2 h = some (v, hE)) : JD cL_load 4 RL "load" (some .int) (171) 0 [(0, .inr (.inr (a0))), (1, .inl (a1)), (2, .inr (.inr (a2)))] [] h hE (some (.inl (v))) := by
  unfold b_L_load_0 at hf
  obtain ⟨x1, e1, hf⟩ := bnd hf
  obtain ⟨⟨x2, h2⟩, e2, hf⟩ := bnd hf
  try dsimp only at hf
  have k2 := c_X10_load e2
  have m2 := (k2 default_g).1
  obtain ⟨h3, e3, hf⟩ := bnd hf
  have m3 := nn_sj e3
  have J := q_L_load_15 hf
  have mE := J.1
  refine ⟨by omega, fun X g K ok nmx lev hK en => ?_⟩
  refine tj_aload_n ok 2 dL_load_0 rfl rfl ?_
  refine tj_iconst (v := 0) ok dL_load_1 (by decide) ?_
  refine tj_aload_n ok 0 dL_load_2 rfl rfl ?_
  refine tj_iload_n ok 1 dL_load_3 rfl rfl ?_
  refine tj_callV (rest := ([.inl ((0 : Int32)), .inr (.inr (a2))] : List TV).map (vl g)) (as := [.inl (a1)]) ok lev (by omega) fcX10.1 (by decide) rfl (of_if e1).1 (k2 g) (CaX.of en (by omega)) kn_X10_load wm_1269 wm_1270 wm_1271 (rs_ok (Nat.le_of_ble_eq_true rfl)) rfl rfl dL_load_4 ?_
  refine tj_i2l ok dL_load_7 ?_
  refine tj_lastore ok dL_load_8 e3 ?_
  refine tj_goto (tgt := 15) ok dL_load_9 (by decide) ?_
  refine tj_sub (lv' := []) [] rfl ?_
  exact J.2 X g K ok nmx lev hK en
def f_L_load (a0 : Nat) (a1 : Int32) (a2 : Nat) (h : AH) : Option (Int32 × AH) := orE (b_L_load_0 a0 a1 a2 h) ((ok_v h a0 10).bind fun x1 => (x_X10_load a0 a1 h).bind fun q9 => if q9.1 = 12 then some ((1 : Int32), q9.2) else none)
set_option maxHeartbeats 4000000 in
set_option maxRecDepth 100000 in
theorem c_L_load {a0 : Nat} {a1 : Int32} {a2 : Nat} {h hE : AH} {v : Int32} (hf : f_L_load a0 a1 a2 h = some (v, hE)) : ∀ g : GT, CW g 171 yL_load cL_load 4 (some .int) [(0, 9, 12, 13)] h [.inr (.inr (a0)), .inl (a1), .inr (.inr (a2))] hE (some (.inl (v))) := by
  rcases orE_of hf with hf | hf
  · exact CW.ofJ (by decide) (by show _ ≤ 4; exact Nat.le_of_ble_eq_true rfl) (q_L_load_0 hf)
  · obtain ⟨x1, e1, hf⟩ := bnd hf
    obtain ⟨⟨E1, h9⟩, e9, hf⟩ := bnd hf
    dsimp only at hf
    obtain ⟨hE, kx⟩ := cx_X10_load e9
    have mE := (kx default_g).1
    intro g
    by_cases hc : E1 = 12
    · rw [if_pos hc] at hf
      subst hc
      obtain ⟨hv, hh⟩ := Prod.mk.inj (Option.some.inj hf)
      subst hv
      subst hh
      refine CW.of (by decide) (by show _ ≤ 4; exact Nat.le_of_ble_eq_true rfl) (by omega) (fun X ok nmx tb lev en => ?_)
      refine tj_aload_n ok 2 dL_load_0 rfl rfl ?_
      refine tj_iconst (v := 0) ok dL_load_1 (by decide) ?_
      refine tj_aload_n ok 0 dL_load_2 rfl rfl ?_
      refine tj_iload_n ok 1 dL_load_3 rfl rfl ?_
      refine tj_catV (rest := ([.inl ((0 : Int32)), .inr (.inr (a2))] : List TV).map (vl g)) (as := [.inl (a1)]) ok tb lev (by omega) fcX10.1 (by decide) rfl (of_if e1).1 (kx g) (CaX.of en (by omega)) kn_X10_load wm_1269 wm_1270 wm_1271 (rs_ok (Nat.le_of_ble_eq_true rfl)) rfl dL_load_4 (Or.inl ⟨_, _, rfl, by decide, by decide, rfl, wm_1246, hx_n (lv' := [(0, .inr (.inr (a0))), (1, .inl (a1)), (2, .inr (.inr (a2)))]) ok dL_load_12 rfl (by decide) rfl ?_⟩)
      refine tj_iconst (v := 1) ok dL_load_13 (by decide) ?_
      exact tj_ireturn ok en dL_load_14
    · rw [if_neg hc] at hf
      cases hf
/-! ===== LitmusHouseLaw.look(LLitmusHouse;II[J)I ===== -/
theorem kw_L_look : Kw yL_look cL_look 5 (some .int) [(0, 10, 13, 13), (0, 10, 17, 23)] 4 := ⟨wm_1272, wm_1242, by decide +kernel, by decide⟩
def b_L_look_21  (h : AH) : Option (Int32 × AH) :=
  some ((0 : Int32), h)
set_option maxHeartbeats 4000000 in
set_option maxRecDepth 100000 in
theorem q_L_look_21 {h hE : AH} {v : Int32} (hf : b_L_look_21  h = some (v, hE)) : JD cL_look 5 RL "look" (some .int) (13) 21 [] [] h hE (some (.inl (v))) := by
  unfold b_L_look_21 at hf
  obtain ⟨hv, hh⟩ := Prod.mk.inj (Option.some.inj hf)
  subst hv
  subst hh
  have mE : hp_n h ≤ hp_n h ∧ hp_s h ≤ hp_s h := ⟨Nat.le_refl _, Nat.le_refl _⟩
  refine ⟨by omega, fun X g K ok nmx lev hK en => ?_⟩
  refine tj_iconst (v := 0) ok dL_look_21 (by decide) ?_
  exact tj_ireturn ok en dL_look_22
def b_L_look_0 (a0 : Nat) (a1 : Int32) (a2 : Int32) (a3 : Nat) (h : AH) : Option (Int32 × AH) :=
  (ok_v h a0 10).bind fun x1 => (f_X10_look a0 a1 a2 h).bind fun q2 => (s_j q2.2 a3 (0 : Int32) q2.1.toInt64).bind fun h3 => b_L_look_21 h3
set_option maxHeartbeats 4000000 in
set_option maxRecDepth 100000 in
theorem q_L_look_0 {a0 : Nat} {a1 : Int32} {a2 : Int32} {a3 : Nat} {h hE : AH} {v : Int32} (hf : b_L_look_0 a0 a1 a2 a3 h = some (v, hE)) : JD cL_look 5 RL "look" (some .int) (13) 0 [(0, .inr (.inr (a0))), (1, .inl (a1)), (2, .inl (a2)), (3, .inr (.inr (a3)))] [] h hE (some (.inl (v))) := by
  unfold b_L_look_0 at hf
  obtain ⟨x1, e1, hf⟩ := bnd hf
  obtain ⟨⟨x2, h2⟩, e2, hf⟩ := bnd hf
  try dsimp only at hf
  have k2 := c_X10_look e2
  have m2 := (k2 default_g).1
  obtain ⟨h3, e3, hf⟩ := bnd hf
  have m3 := nn_sj e3
  have J := q_L_look_21 hf
  have mE := J.1
  refine ⟨by omega, fun X g K ok nmx lev hK en => ?_⟩
  refine tj_aload_n ok 3 dL_look_0 rfl rfl ?_
  refine tj_iconst (v := 0) ok dL_look_1 (by decide) ?_
  refine tj_aload_n ok 0 dL_look_2 rfl rfl ?_
  refine tj_iload_n ok 1 dL_look_3 rfl rfl ?_
  refine tj_iload_n ok 2 dL_look_4 rfl rfl ?_
  refine tj_callV (rest := ([.inl ((0 : Int32)), .inr (.inr (a3))] : List TV).map (vl g)) (as := [.inl (a1), .inl (a2)]) ok lev (by omega) fcX10.1 (by decide) rfl (of_if e1).1 (k2 g) (CaX.of en (by omega)) kn_X10_look wm_1273 wm_1274 wm_1275 (rs_ok (Nat.le_of_ble_eq_true rfl)) rfl rfl dL_look_5 ?_
  refine tj_i2l ok dL_look_8 ?_
  refine tj_lastore ok dL_look_9 e3 ?_
  refine tj_goto (tgt := 21) ok dL_look_10 (by decide) ?_
  refine tj_sub (lv' := []) [] rfl ?_
  exact J.2 X g K ok nmx lev hK en
def f_L_look (a0 : Nat) (a1 : Int32) (a2 : Int32) (a3 : Nat) (h : AH) : Option (Int32 × AH) := orE (b_L_look_0 a0 a1 a2 a3 h) ((ok_v h a0 10).bind fun x1 => (x_X10_look a0 a1 a2 h).bind fun q9 => if q9.1 = 12 then some ((1 : Int32), q9.2) else some ((2 : Int32), q9.2))
set_option maxHeartbeats 4000000 in
set_option maxRecDepth 100000 in
theorem c_L_look {a0 : Nat} {a1 : Int32} {a2 : Int32} {a3 : Nat} {h hE : AH} {v : Int32} (hf : f_L_look a0 a1 a2 a3 h = some (v, hE)) : ∀ g : GT, CW g 13 yL_look cL_look 5 (some .int) [(0, 10, 13, 13), (0, 10, 17, 23)] h [.inr (.inr (a0)), .inl (a1), .inl (a2), .inr (.inr (a3))] hE (some (.inl (v))) := by
  rcases orE_of hf with hf | hf
  · exact CW.ofJ (by decide) (by show _ ≤ 5; exact Nat.le_of_ble_eq_true rfl) (q_L_look_0 hf)
  · obtain ⟨x1, e1, hf⟩ := bnd hf
    obtain ⟨⟨E1, h9⟩, e9, hf⟩ := bnd hf
    dsimp only at hf
    obtain ⟨hE, kx⟩ := cx_X10_look e9
    have mE := (kx default_g).1
    intro g
    by_cases hc : E1 = 12
    · rw [if_pos hc] at hf
      subst hc
      obtain ⟨hv, hh⟩ := Prod.mk.inj (Option.some.inj hf)
      subst hv
      subst hh
      refine CW.of (by decide) (by show _ ≤ 5; exact Nat.le_of_ble_eq_true rfl) (by omega) (fun X ok nmx tb lev en => ?_)
      refine tj_aload_n ok 3 dL_look_0 rfl rfl ?_
      refine tj_iconst (v := 0) ok dL_look_1 (by decide) ?_
      refine tj_aload_n ok 0 dL_look_2 rfl rfl ?_
      refine tj_iload_n ok 1 dL_look_3 rfl rfl ?_
      refine tj_iload_n ok 2 dL_look_4 rfl rfl ?_
      refine tj_catV (rest := ([.inl ((0 : Int32)), .inr (.inr (a3))] : List TV).map (vl g)) (as := [.inl (a1), .inl (a2)]) ok tb lev (by omega) fcX10.1 (by decide) rfl (of_if e1).1 (kx g) (CaX.of en (by omega)) kn_X10_look wm_1273 wm_1274 wm_1275 (rs_ok (Nat.le_of_ble_eq_true rfl)) rfl dL_look_5 (Or.inl ⟨_, _, rfl, by decide, by decide, rfl, wm_1246, hx_w (lv' := [(0, .inr (.inr (a0))), (1, .inl (a1)), (2, .inl (a2)), (3, .inr (.inr (a3)))]) ok dL_look_13 (by decide) rfl ?_⟩)
      refine tj_iconst (v := 1) ok dL_look_15 (by decide) ?_
      exact tj_ireturn ok en dL_look_16
    · rw [if_neg hc] at hf
      have hc13 : E1 = 13 := hE.resolve_left hc
      subst hc13
      obtain ⟨hv, hh⟩ := Prod.mk.inj (Option.some.inj hf)
      subst hv
      subst hh
      refine CW.of (by decide) (by show _ ≤ 5; exact Nat.le_of_ble_eq_true rfl) (by omega) (fun X ok nmx tb lev en => ?_)
      refine tj_aload_n ok 3 dL_look_0 rfl rfl ?_
      refine tj_iconst (v := 0) ok dL_look_1 (by decide) ?_
      refine tj_aload_n ok 0 dL_look_2 rfl rfl ?_
      refine tj_iload_n ok 1 dL_look_3 rfl rfl ?_
      refine tj_iload_n ok 2 dL_look_4 rfl rfl ?_
      refine tj_catV (rest := ([.inl ((0 : Int32)), .inr (.inr (a3))] : List TV).map (vl g)) (as := [.inl (a1), .inl (a2)]) ok tb lev (by omega) fcX10.1 (by decide) rfl (of_if e1).1 (kx g) (CaX.of en (by omega)) kn_X10_look wm_1273 wm_1274 wm_1275 (rs_ok (Nat.le_of_ble_eq_true rfl)) rfl dL_look_5 (Or.inr ⟨_, _, _, rfl, by decide, by decide, wm_1246, by decide, by decide, rfl, wm_1247, hx_w (lv' := [(0, .inr (.inr (a0))), (1, .inl (a1)), (2, .inl (a2)), (3, .inr (.inr (a3)))]) ok dL_look_17 (by decide) rfl ?_⟩)
      refine tj_iconst (v := 2) ok dL_look_19 (by decide) ?_
      exact tj_ireturn ok en dL_look_20
/-! ===== LitmusHouseLaw.make(LLitmusHouse;III[J)I ===== -/
theorem kw_L_make : Kw yL_make cL_make 6 (some .int) [(0, 12, 15, 13), (0, 12, 19, 23)] 5 := ⟨wm_1276, wm_1242, by decide +kernel, by decide⟩
def b_L_make_23  (h : AH) : Option (Int32 × AH) :=
  some ((0 : Int32), h)
set_option maxHeartbeats 4000000 in
set_option maxRecDepth 100000 in
theorem q_L_make_23 {h hE : AH} {v : Int32} (hf : b_L_make_23  h = some (v, hE)) : JD cL_make 6 RL "make" (some .int) (13) 23 [] [] h hE (some (.inl (v))) := by
  unfold b_L_make_23 at hf
  obtain ⟨hv, hh⟩ := Prod.mk.inj (Option.some.inj hf)
  subst hv
  subst hh
  have mE : hp_n h ≤ hp_n h ∧ hp_s h ≤ hp_s h := ⟨Nat.le_refl _, Nat.le_refl _⟩
  refine ⟨by omega, fun X g K ok nmx lev hK en => ?_⟩
  refine tj_iconst (v := 0) ok dL_make_23 (by decide) ?_
  exact tj_ireturn ok en dL_make_24
def b_L_make_0 (a0 : Nat) (a1 : Int32) (a2 : Int32) (a3 : Int32) (a4 : Nat) (h : AH) : Option (Int32 × AH) :=
  (ok_v h a0 10).bind fun x1 => (f_X10_make a0 a1 a2 a3 h).bind fun q2 => (s_j q2.2 a4 (0 : Int32) q2.1.toInt64).bind fun h3 => b_L_make_23 h3
set_option maxHeartbeats 4000000 in
set_option maxRecDepth 100000 in
theorem q_L_make_0 {a0 : Nat} {a1 : Int32} {a2 : Int32} {a3 : Int32} {a4 : Nat} {h hE : AH} {v : Int32} (hf : b_L_make_0 a0 a1 a2 a3 a4 h = some (v, hE)) : JD cL_make 6 RL "make" (some .int) (13) 0 [(0, .inr (.inr (a0))), (1, .inl (a1)), (2, .inl (a2)), (3, .inl (a3)), (4, .inr (.inr (a4)))] [] h hE (some (.inl (v))) := by
  unfold b_L_make_0 at hf
  obtain ⟨x1, e1, hf⟩ := bnd hf
  obtain ⟨⟨x2, h2⟩, e2, hf⟩ := bnd hf
  try dsimp only at hf
  have k2 := c_X10_make e2
  have m2 := (k2 default_g).1
  obtain ⟨h3, e3, hf⟩ := bnd hf
  have m3 := nn_sj e3
  have J := q_L_make_23 hf
  have mE := J.1
  refine ⟨by omega, fun X g K ok nmx lev hK en => ?_⟩
  refine tj_aload ok 4 dL_make_0 rfl ?_
  refine tj_iconst (v := 0) ok dL_make_2 (by decide) ?_
  refine tj_aload_n ok 0 dL_make_3 rfl rfl ?_
  refine tj_iload_n ok 1 dL_make_4 rfl rfl ?_
  refine tj_iload_n ok 2 dL_make_5 rfl rfl ?_
  refine tj_iload_n ok 3 dL_make_6 rfl rfl ?_
  refine tj_callV (rest := ([.inl ((0 : Int32)), .inr (.inr (a4))] : List TV).map (vl g)) (as := [.inl (a1), .inl (a2), .inl (a3)]) ok lev (by omega) fcX10.1 (by decide) rfl (of_if e1).1 (k2 g) (CaX.of en (by omega)) kn_X10_make wm_1277 wm_1278 wm_1279 (rs_ok (Nat.le_of_ble_eq_true rfl)) rfl rfl dL_make_7 ?_
  refine tj_i2l ok dL_make_10 ?_
  refine tj_lastore ok dL_make_11 e3 ?_
  refine tj_goto (tgt := 23) ok dL_make_12 (by decide) ?_
  refine tj_sub (lv' := []) [] rfl ?_
  exact J.2 X g K ok nmx lev hK en
def f_L_make (a0 : Nat) (a1 : Int32) (a2 : Int32) (a3 : Int32) (a4 : Nat) (h : AH) : Option (Int32 × AH) := orE (b_L_make_0 a0 a1 a2 a3 a4 h) ((ok_v h a0 10).bind fun x1 => (x_X10_make a0 a1 a2 a3 h).bind fun q9 => if q9.1 = 12 then some ((1 : Int32), q9.2) else some ((2 : Int32), q9.2))
set_option maxHeartbeats 4000000 in
set_option maxRecDepth 100000 in
theorem c_L_make {a0 : Nat} {a1 : Int32} {a2 : Int32} {a3 : Int32} {a4 : Nat} {h hE : AH} {v : Int32} (hf : f_L_make a0 a1 a2 a3 a4 h = some (v, hE)) : ∀ g : GT, CW g 13 yL_make cL_make 6 (some .int) [(0, 12, 15, 13), (0, 12, 19, 23)] h [.inr (.inr (a0)), .inl (a1), .inl (a2), .inl (a3), .inr (.inr (a4))] hE (some (.inl (v))) := by
  rcases orE_of hf with hf | hf
  · exact CW.ofJ (by decide) (by show _ ≤ 6; exact Nat.le_of_ble_eq_true rfl) (q_L_make_0 hf)
  · obtain ⟨x1, e1, hf⟩ := bnd hf
    obtain ⟨⟨E1, h9⟩, e9, hf⟩ := bnd hf
    dsimp only at hf
    obtain ⟨hE, kx⟩ := cx_X10_make e9
    have mE := (kx default_g).1
    intro g
    by_cases hc : E1 = 12
    · rw [if_pos hc] at hf
      subst hc
      obtain ⟨hv, hh⟩ := Prod.mk.inj (Option.some.inj hf)
      subst hv
      subst hh
      refine CW.of (by decide) (by show _ ≤ 6; exact Nat.le_of_ble_eq_true rfl) (by omega) (fun X ok nmx tb lev en => ?_)
      refine tj_aload ok 4 dL_make_0 rfl ?_
      refine tj_iconst (v := 0) ok dL_make_2 (by decide) ?_
      refine tj_aload_n ok 0 dL_make_3 rfl rfl ?_
      refine tj_iload_n ok 1 dL_make_4 rfl rfl ?_
      refine tj_iload_n ok 2 dL_make_5 rfl rfl ?_
      refine tj_iload_n ok 3 dL_make_6 rfl rfl ?_
      refine tj_catV (rest := ([.inl ((0 : Int32)), .inr (.inr (a4))] : List TV).map (vl g)) (as := [.inl (a1), .inl (a2), .inl (a3)]) ok tb lev (by omega) fcX10.1 (by decide) rfl (of_if e1).1 (kx g) (CaX.of en (by omega)) kn_X10_make wm_1277 wm_1278 wm_1279 (rs_ok (Nat.le_of_ble_eq_true rfl)) rfl dL_make_7 (Or.inl ⟨_, _, rfl, by decide, by decide, rfl, wm_1246, hx_w (lv' := [(0, .inr (.inr (a0))), (1, .inl (a1)), (2, .inl (a2)), (3, .inl (a3)), (4, .inr (.inr (a4)))]) ok dL_make_15 (by decide) rfl ?_⟩)
      refine tj_iconst (v := 1) ok dL_make_17 (by decide) ?_
      exact tj_ireturn ok en dL_make_18
    · rw [if_neg hc] at hf
      have hc13 : E1 = 13 := hE.resolve_left hc
      subst hc13
      obtain ⟨hv, hh⟩ := Prod.mk.inj (Option.some.inj hf)
      subst hv
      subst hh
      refine CW.of (by decide) (by show _ ≤ 6; exact Nat.le_of_ble_eq_true rfl) (by omega) (fun X ok nmx tb lev en => ?_)
      refine tj_aload ok 4 dL_make_0 rfl ?_
      refine tj_iconst (v := 0) ok dL_make_2 (by decide) ?_
      refine tj_aload_n ok 0 dL_make_3 rfl rfl ?_
      refine tj_iload_n ok 1 dL_make_4 rfl rfl ?_
      refine tj_iload_n ok 2 dL_make_5 rfl rfl ?_
      refine tj_iload_n ok 3 dL_make_6 rfl rfl ?_
      refine tj_catV (rest := ([.inl ((0 : Int32)), .inr (.inr (a4))] : List TV).map (vl g)) (as := [.inl (a1), .inl (a2), .inl (a3)]) ok tb lev (by omega) fcX10.1 (by decide) rfl (of_if e1).1 (kx g) (CaX.of en (by omega)) kn_X10_make wm_1277 wm_1278 wm_1279 (rs_ok (Nat.le_of_ble_eq_true rfl)) rfl dL_make_7 (Or.inr ⟨_, _, _, rfl, by decide, by decide, wm_1246, by decide, by decide, rfl, wm_1247, hx_w (lv' := [(0, .inr (.inr (a0))), (1, .inl (a1)), (2, .inl (a2)), (3, .inl (a3)), (4, .inr (.inr (a4)))]) ok dL_make_19 (by decide) rfl ?_⟩)
      refine tj_iconst (v := 2) ok dL_make_21 (by decide) ?_
      exact tj_ireturn ok en dL_make_22
/-! ===== LitmusHouseLaw.outcomes(LLitmusHouse;II[J)I ===== -/
theorem kw_L_outcomes : Kw yL_outcomes cL_outcomes 5 (some .int) [(0, 10, 13, 13), (0, 10, 17, 23)] 4 := ⟨wm_1280, wm_1242, by decide +kernel, by decide⟩
def b_L_outcomes_21  (h : AH) : Option (Int32 × AH) :=
  some ((0 : Int32), h)
set_option maxHeartbeats 4000000 in
set_option maxRecDepth 100000 in
theorem q_L_outcomes_21 {h hE : AH} {v : Int32} (hf : b_L_outcomes_21  h = some (v, hE)) : JD cL_outcomes 5 RL "outcomes" (some .int) (148) 21 [] [] h hE (some (.inl (v))) := by
  unfold b_L_outcomes_21 at hf
  obtain ⟨hv, hh⟩ := Prod.mk.inj (Option.some.inj hf)
  subst hv
  subst hh
  have mE : hp_n h ≤ hp_n h ∧ hp_s h ≤ hp_s h := ⟨Nat.le_refl _, Nat.le_refl _⟩
  refine ⟨by omega, fun X g K ok nmx lev hK en => ?_⟩
  refine tj_iconst (v := 0) ok dL_outcomes_21 (by decide) ?_
  exact tj_ireturn ok en dL_outcomes_22
def b_L_outcomes_0 (a0 : Nat) (a1 : Int32) (a2 : Int32) (a3 : Nat) (h : AH) : Option (Int32 × AH) :=
  (ok_v h a0 10).bind fun x1 => (f_X10_outcomes a0 a1 a2 h).bind fun q2 => (s_j q2.2 a3 (0 : Int32) q2.1.toInt64).bind fun h3 => b_L_outcomes_21 h3
set_option maxHeartbeats 4000000 in
set_option maxRecDepth 100000 in
theorem q_L_outcomes_0 {a0 : Nat} {a1 : Int32} {a2 : Int32} {a3 : Nat} {h hE : AH} {v : Int32} (hf : b_L_outcomes_0 a0 a1 a2 a3 h = some (v, hE)) : JD cL_outcomes 5 RL "outcomes" (some .int) (148) 0 [(0, .inr (.inr (a0))), (1, .inl (a1)), (2, .inl (a2)), (3, .inr (.inr (a3)))] [] h hE (some (.inl (v))) := by
  unfold b_L_outcomes_0 at hf
  obtain ⟨x1, e1, hf⟩ := bnd hf
  obtain ⟨⟨x2, h2⟩, e2, hf⟩ := bnd hf
  try dsimp only at hf
  have k2 := c_X10_outcomes e2
  have m2 := (k2 default_g).1
  obtain ⟨h3, e3, hf⟩ := bnd hf
  have m3 := nn_sj e3
  have J := q_L_outcomes_21 hf
  have mE := J.1
  refine ⟨by omega, fun X g K ok nmx lev hK en => ?_⟩
  refine tj_aload_n ok 3 dL_outcomes_0 rfl rfl ?_
  refine tj_iconst (v := 0) ok dL_outcomes_1 (by decide) ?_
  refine tj_aload_n ok 0 dL_outcomes_2 rfl rfl ?_
  refine tj_iload_n ok 1 dL_outcomes_3 rfl rfl ?_
  refine tj_iload_n ok 2 dL_outcomes_4 rfl rfl ?_
  refine tj_callV (rest := ([.inl ((0 : Int32)), .inr (.inr (a3))] : List TV).map (vl g)) (as := [.inl (a1), .inl (a2)]) ok lev (by omega) fcX10.1 (by decide) rfl (of_if e1).1 (k2 g) (CaX.of en (by omega)) kn_X10_outcomes wm_1281 wm_1282 wm_1283 (rs_ok (Nat.le_of_ble_eq_true rfl)) rfl rfl dL_outcomes_5 ?_
  refine tj_i2l ok dL_outcomes_8 ?_
  refine tj_lastore ok dL_outcomes_9 e3 ?_
  refine tj_goto (tgt := 21) ok dL_outcomes_10 (by decide) ?_
  refine tj_sub (lv' := []) [] rfl ?_
  exact J.2 X g K ok nmx lev hK en
def f_L_outcomes (a0 : Nat) (a1 : Int32) (a2 : Int32) (a3 : Nat) (h : AH) : Option (Int32 × AH) := orE (b_L_outcomes_0 a0 a1 a2 a3 h) ((ok_v h a0 10).bind fun x1 => (x_X10_outcomes a0 a1 a2 h).bind fun q9 => if q9.1 = 12 then some ((1 : Int32), q9.2) else some ((2 : Int32), q9.2))
set_option maxHeartbeats 4000000 in
set_option maxRecDepth 100000 in
theorem c_L_outcomes {a0 : Nat} {a1 : Int32} {a2 : Int32} {a3 : Nat} {h hE : AH} {v : Int32} (hf : f_L_outcomes a0 a1 a2 a3 h = some (v, hE)) : ∀ g : GT, CW g 148 yL_outcomes cL_outcomes 5 (some .int) [(0, 10, 13, 13), (0, 10, 17, 23)] h [.inr (.inr (a0)), .inl (a1), .inl (a2), .inr (.inr (a3))] hE (some (.inl (v))) := by
  rcases orE_of hf with hf | hf
  · exact CW.ofJ (by decide) (by show _ ≤ 5; exact Nat.le_of_ble_eq_true rfl) (q_L_outcomes_0 hf)
  · obtain ⟨x1, e1, hf⟩ := bnd hf
    obtain ⟨⟨E1, h9⟩, e9, hf⟩ := bnd hf
    dsimp only at hf
    obtain ⟨hE, kx⟩ := cx_X10_outcomes e9
    have mE := (kx default_g).1
    intro g
    by_cases hc : E1 = 12
    · rw [if_pos hc] at hf
      subst hc
      obtain ⟨hv, hh⟩ := Prod.mk.inj (Option.some.inj hf)
      subst hv
      subst hh
      refine CW.of (by decide) (by show _ ≤ 5; exact Nat.le_of_ble_eq_true rfl) (by omega) (fun X ok nmx tb lev en => ?_)
      refine tj_aload_n ok 3 dL_outcomes_0 rfl rfl ?_
      refine tj_iconst (v := 0) ok dL_outcomes_1 (by decide) ?_
      refine tj_aload_n ok 0 dL_outcomes_2 rfl rfl ?_
      refine tj_iload_n ok 1 dL_outcomes_3 rfl rfl ?_
      refine tj_iload_n ok 2 dL_outcomes_4 rfl rfl ?_
      refine tj_catV (rest := ([.inl ((0 : Int32)), .inr (.inr (a3))] : List TV).map (vl g)) (as := [.inl (a1), .inl (a2)]) ok tb lev (by omega) fcX10.1 (by decide) rfl (of_if e1).1 (kx g) (CaX.of en (by omega)) kn_X10_outcomes wm_1281 wm_1282 wm_1283 (rs_ok (Nat.le_of_ble_eq_true rfl)) rfl dL_outcomes_5 (Or.inl ⟨_, _, rfl, by decide, by decide, rfl, wm_1246, hx_w (lv' := [(0, .inr (.inr (a0))), (1, .inl (a1)), (2, .inl (a2)), (3, .inr (.inr (a3)))]) ok dL_outcomes_13 (by decide) rfl ?_⟩)
      refine tj_iconst (v := 1) ok dL_outcomes_15 (by decide) ?_
      exact tj_ireturn ok en dL_outcomes_16
    · rw [if_neg hc] at hf
      have hc13 : E1 = 13 := hE.resolve_left hc
      subst hc13
      obtain ⟨hv, hh⟩ := Prod.mk.inj (Option.some.inj hf)
      subst hv
      subst hh
      refine CW.of (by decide) (by show _ ≤ 5; exact Nat.le_of_ble_eq_true rfl) (by omega) (fun X ok nmx tb lev en => ?_)
      refine tj_aload_n ok 3 dL_outcomes_0 rfl rfl ?_
      refine tj_iconst (v := 0) ok dL_outcomes_1 (by decide) ?_
      refine tj_aload_n ok 0 dL_outcomes_2 rfl rfl ?_
      refine tj_iload_n ok 1 dL_outcomes_3 rfl rfl ?_
      refine tj_iload_n ok 2 dL_outcomes_4 rfl rfl ?_
      refine tj_catV (rest := ([.inl ((0 : Int32)), .inr (.inr (a3))] : List TV).map (vl g)) (as := [.inl (a1), .inl (a2)]) ok tb lev (by omega) fcX10.1 (by decide) rfl (of_if e1).1 (kx g) (CaX.of en (by omega)) kn_X10_outcomes wm_1281 wm_1282 wm_1283 (rs_ok (Nat.le_of_ble_eq_true rfl)) rfl dL_outcomes_5 (Or.inr ⟨_, _, _, rfl, by decide, by decide, wm_1246, by decide, by decide, rfl, wm_1247, hx_w (lv' := [(0, .inr (.inr (a0))), (1, .inl (a1)), (2, .inl (a2)), (3, .inr (.inr (a3)))]) ok dL_outcomes_17 (by decide) rfl ?_⟩)
      refine tj_iconst (v := 2) ok dL_outcomes_19 (by decide) ?_
      exact tj_ireturn ok en dL_outcomes_20
/-! ===== LitmusHouseLaw.print(LLitmusHouse;I[J)I ===== -/
theorem kw_L_print : Kw yL_print cL_print 4 (some .int) [(0, 9, 12, 13), (0, 9, 15, 23)] 3 := ⟨wm_1284, wm_1242, by decide +kernel, by decide⟩
def b_L_print_18  (h : AH) : Option (Int32 × AH) :=
  some ((0 : Int32), h)
set_option maxHeartbeats 4000000 in
set_option maxRecDepth 100000 in
theorem q_L_print_18 {h hE : AH} {v : Int32} (hf : b_L_print_18  h = some (v, hE)) : JD cL_print 4 RL "print" (some .int) (13) 18 [] [] h hE (some (.inl (v))) := by
  unfold b_L_print_18 at hf
  obtain ⟨hv, hh⟩ := Prod.mk.inj (Option.some.inj hf)
  subst hv
  subst hh
  have mE : hp_n h ≤ hp_n h ∧ hp_s h ≤ hp_s h := ⟨Nat.le_refl _, Nat.le_refl _⟩
  refine ⟨by omega, fun X g K ok nmx lev hK en => ?_⟩
  refine tj_iconst (v := 0) ok dL_print_18 (by decide) ?_
  exact tj_ireturn ok en dL_print_19
def b_L_print_0 (a0 : Nat) (a1 : Int32) (a2 : Nat) (h : AH) : Option (Int32 × AH) :=
  (ok_v h a0 10).bind fun x1 => (f_X10_print a0 a1 h).bind fun q2 => (s_j q2.2 a2 (0 : Int32) q2.1.toInt64).bind fun h3 => b_L_print_18 h3
set_option maxHeartbeats 4000000 in
set_option maxRecDepth 100000 in
theorem q_L_print_0 {a0 : Nat} {a1 : Int32} {a2 : Nat} {h hE : AH} {v : Int32} (hf : b_L_print_0 a0 a1 a2 h = some (v, hE)) : JD cL_print 4 RL "print" (some .int) (13) 0 [(0, .inr (.inr (a0))), (1, .inl (a1)), (2, .inr (.inr (a2)))] [] h hE (some (.inl (v))) := by
  unfold b_L_print_0 at hf
  obtain ⟨x1, e1, hf⟩ := bnd hf
  obtain ⟨⟨x2, h2⟩, e2, hf⟩ := bnd hf
  try dsimp only at hf
  have k2 := c_X10_print e2
  have m2 := (k2 default_g).1
  obtain ⟨h3, e3, hf⟩ := bnd hf
  have m3 := nn_sj e3
  have J := q_L_print_18 hf
  have mE := J.1
  refine ⟨by omega, fun X g K ok nmx lev hK en => ?_⟩
  refine tj_aload_n ok 2 dL_print_0 rfl rfl ?_
  refine tj_iconst (v := 0) ok dL_print_1 (by decide) ?_
  refine tj_aload_n ok 0 dL_print_2 rfl rfl ?_
  refine tj_iload_n ok 1 dL_print_3 rfl rfl ?_
  refine tj_callV (rest := ([.inl ((0 : Int32)), .inr (.inr (a2))] : List TV).map (vl g)) (as := [.inl (a1)]) ok lev (by omega) fcX10.1 (by decide) rfl (of_if e1).1 (k2 g) (CaX.of en (by omega)) kn_X10_print wm_1285 wm_1286 wm_1287 (rs_ok (Nat.le_of_ble_eq_true rfl)) rfl rfl dL_print_4 ?_
  refine tj_i2l ok dL_print_7 ?_
  refine tj_lastore ok dL_print_8 e3 ?_
  refine tj_goto (tgt := 18) ok dL_print_9 (by decide) ?_
  refine tj_sub (lv' := []) [] rfl ?_
  exact J.2 X g K ok nmx lev hK en
def f_L_print (a0 : Nat) (a1 : Int32) (a2 : Nat) (h : AH) : Option (Int32 × AH) := orE (b_L_print_0 a0 a1 a2 h) ((ok_v h a0 10).bind fun x1 => (x_X10_print a0 a1 h).bind fun q9 => if q9.1 = 12 then some ((1 : Int32), q9.2) else some ((2 : Int32), q9.2))
set_option maxHeartbeats 4000000 in
set_option maxRecDepth 100000 in
theorem c_L_print {a0 : Nat} {a1 : Int32} {a2 : Nat} {h hE : AH} {v : Int32} (hf : f_L_print a0 a1 a2 h = some (v, hE)) : ∀ g : GT, CW g 13 yL_print cL_print 4 (some .int) [(0, 9, 12, 13), (0, 9, 15, 23)] h [.inr (.inr (a0)), .inl (a1), .inr (.inr (a2))] hE (some (.inl (v))) := by
  rcases orE_of hf with hf | hf
  · exact CW.ofJ (by decide) (by show _ ≤ 4; exact Nat.le_of_ble_eq_true rfl) (q_L_print_0 hf)
  · obtain ⟨x1, e1, hf⟩ := bnd hf
    obtain ⟨⟨E1, h9⟩, e9, hf⟩ := bnd hf
    dsimp only at hf
    obtain ⟨hE, kx⟩ := cx_X10_print e9
    have mE := (kx default_g).1
    intro g
    by_cases hc : E1 = 12
    · rw [if_pos hc] at hf
      subst hc
      obtain ⟨hv, hh⟩ := Prod.mk.inj (Option.some.inj hf)
      subst hv
      subst hh
      refine CW.of (by decide) (by show _ ≤ 4; exact Nat.le_of_ble_eq_true rfl) (by omega) (fun X ok nmx tb lev en => ?_)
      refine tj_aload_n ok 2 dL_print_0 rfl rfl ?_
      refine tj_iconst (v := 0) ok dL_print_1 (by decide) ?_
      refine tj_aload_n ok 0 dL_print_2 rfl rfl ?_
      refine tj_iload_n ok 1 dL_print_3 rfl rfl ?_
      refine tj_catV (rest := ([.inl ((0 : Int32)), .inr (.inr (a2))] : List TV).map (vl g)) (as := [.inl (a1)]) ok tb lev (by omega) fcX10.1 (by decide) rfl (of_if e1).1 (kx g) (CaX.of en (by omega)) kn_X10_print wm_1285 wm_1286 wm_1287 (rs_ok (Nat.le_of_ble_eq_true rfl)) rfl dL_print_4 (Or.inl ⟨_, _, rfl, by decide, by decide, rfl, wm_1246, hx_n (lv' := [(0, .inr (.inr (a0))), (1, .inl (a1)), (2, .inr (.inr (a2)))]) ok dL_print_12 rfl (by decide) rfl ?_⟩)
      refine tj_iconst (v := 1) ok dL_print_13 (by decide) ?_
      exact tj_ireturn ok en dL_print_14
    · rw [if_neg hc] at hf
      have hc13 : E1 = 13 := hE.resolve_left hc
      subst hc13
      obtain ⟨hv, hh⟩ := Prod.mk.inj (Option.some.inj hf)
      subst hv
      subst hh
      refine CW.of (by decide) (by show _ ≤ 4; exact Nat.le_of_ble_eq_true rfl) (by omega) (fun X ok nmx tb lev en => ?_)
      refine tj_aload_n ok 2 dL_print_0 rfl rfl ?_
      refine tj_iconst (v := 0) ok dL_print_1 (by decide) ?_
      refine tj_aload_n ok 0 dL_print_2 rfl rfl ?_
      refine tj_iload_n ok 1 dL_print_3 rfl rfl ?_
      refine tj_catV (rest := ([.inl ((0 : Int32)), .inr (.inr (a2))] : List TV).map (vl g)) (as := [.inl (a1)]) ok tb lev (by omega) fcX10.1 (by decide) rfl (of_if e1).1 (kx g) (CaX.of en (by omega)) kn_X10_print wm_1285 wm_1286 wm_1287 (rs_ok (Nat.le_of_ble_eq_true rfl)) rfl dL_print_4 (Or.inr ⟨_, _, _, rfl, by decide, by decide, wm_1246, by decide, by decide, rfl, wm_1247, hx_n (lv' := [(0, .inr (.inr (a0))), (1, .inl (a1)), (2, .inr (.inr (a2)))]) ok dL_print_15 rfl (by decide) rfl ?_⟩)
      refine tj_iconst (v := 2) ok dL_print_16 (by decide) ?_
      exact tj_ireturn ok en dL_print_17
/-! ===== LitmusHouseLaw.race(LLitmusHouse;III[J)I ===== -/
theorem kw_L_race : Kw yL_race cL_race 6 (some .int) [(0, 12, 15, 13), (0, 12, 19, 23)] 5 := ⟨wm_1288, wm_1242, by decide +kernel, by decide⟩
def b_L_race_23  (h : AH) : Option (Int32 × AH) :=
  some ((0 : Int32), h)
set_option maxHeartbeats 4000000 in
set_option maxRecDepth 100000 in
theorem q_L_race_23 {h hE : AH} {v : Int32} (hf : b_L_race_23  h = some (v, hE)) : JD cL_race 6 RL "race" (some .int) (148) 23 [] [] h hE (some (.inl (v))) := by
  unfold b_L_race_23 at hf
  obtain ⟨hv, hh⟩ := Prod.mk.inj (Option.some.inj hf)
  subst hv
  subst hh
  have mE : hp_n h ≤ hp_n h ∧ hp_s h ≤ hp_s h := ⟨Nat.le_refl _, Nat.le_refl _⟩
  refine ⟨by omega, fun X g K ok nmx lev hK en => ?_⟩
  refine tj_iconst (v := 0) ok dL_race_23 (by decide) ?_
  exact tj_ireturn ok en dL_race_24
def b_L_race_0 (a0 : Nat) (a1 : Int32) (a2 : Int32) (a3 : Int32) (a4 : Nat) (h : AH) : Option (Int32 × AH) :=
  (ok_v h a0 10).bind fun x1 => (f_X10_race a0 a1 a2 a3 h).bind fun q2 => (s_j q2.2 a4 (0 : Int32) q2.1.toInt64).bind fun h3 => b_L_race_23 h3
set_option maxHeartbeats 4000000 in
set_option maxRecDepth 100000 in
theorem q_L_race_0 {a0 : Nat} {a1 : Int32} {a2 : Int32} {a3 : Int32} {a4 : Nat} {h hE : AH} {v : Int32} (hf : b_L_race_0 a0 a1 a2 a3 a4 h = some (v, hE)) : JD cL_race 6 RL "race" (some .int) (148) 0 [(0, .inr (.inr (a0))), (1, .inl (a1)), (2, .inl (a2)), (3, .inl (a3)), (4, .inr (.inr (a4)))] [] h hE (some (.inl (v))) := by
  unfold b_L_race_0 at hf
  obtain ⟨x1, e1, hf⟩ := bnd hf
  obtain ⟨⟨x2, h2⟩, e2, hf⟩ := bnd hf
  try dsimp only at hf
  have k2 := c_X10_race e2
  have m2 := (k2 default_g).1
  obtain ⟨h3, e3, hf⟩ := bnd hf
  have m3 := nn_sj e3
  have J := q_L_race_23 hf
  have mE := J.1
  refine ⟨by omega, fun X g K ok nmx lev hK en => ?_⟩
  refine tj_aload ok 4 dL_race_0 rfl ?_
  refine tj_iconst (v := 0) ok dL_race_2 (by decide) ?_
  refine tj_aload_n ok 0 dL_race_3 rfl rfl ?_
  refine tj_iload_n ok 1 dL_race_4 rfl rfl ?_
  refine tj_iload_n ok 2 dL_race_5 rfl rfl ?_
  refine tj_iload_n ok 3 dL_race_6 rfl rfl ?_
  refine tj_callV (rest := ([.inl ((0 : Int32)), .inr (.inr (a4))] : List TV).map (vl g)) (as := [.inl (a1), .inl (a2), .inl (a3)]) ok lev (by omega) fcX10.1 (by decide) rfl (of_if e1).1 (k2 g) (CaX.of en (by omega)) kn_X10_race wm_1289 wm_1290 wm_1291 (rs_ok (Nat.le_of_ble_eq_true rfl)) rfl rfl dL_race_7 ?_
  refine tj_i2l ok dL_race_10 ?_
  refine tj_lastore ok dL_race_11 e3 ?_
  refine tj_goto (tgt := 23) ok dL_race_12 (by decide) ?_
  refine tj_sub (lv' := []) [] rfl ?_
  exact J.2 X g K ok nmx lev hK en
def f_L_race (a0 : Nat) (a1 : Int32) (a2 : Int32) (a3 : Int32) (a4 : Nat) (h : AH) : Option (Int32 × AH) := orE (b_L_race_0 a0 a1 a2 a3 a4 h) ((ok_v h a0 10).bind fun x1 => (x_X10_race a0 a1 a2 a3 h).bind fun q9 => if q9.1 = 12 then some ((1 : Int32), q9.2) else some ((2 : Int32), q9.2))
set_option maxHeartbeats 4000000 in
set_option maxRecDepth 100000 in
theorem c_L_race {a0 : Nat} {a1 : Int32} {a2 : Int32} {a3 : Int32} {a4 : Nat} {h hE : AH} {v : Int32} (hf : f_L_race a0 a1 a2 a3 a4 h = some (v, hE)) : ∀ g : GT, CW g 148 yL_race cL_race 6 (some .int) [(0, 12, 15, 13), (0, 12, 19, 23)] h [.inr (.inr (a0)), .inl (a1), .inl (a2), .inl (a3), .inr (.inr (a4))] hE (some (.inl (v))) := by
  rcases orE_of hf with hf | hf
  · exact CW.ofJ (by decide) (by show _ ≤ 6; exact Nat.le_of_ble_eq_true rfl) (q_L_race_0 hf)
  · obtain ⟨x1, e1, hf⟩ := bnd hf
    obtain ⟨⟨E1, h9⟩, e9, hf⟩ := bnd hf
    dsimp only at hf
    obtain ⟨hE, kx⟩ := cx_X10_race e9
    have mE := (kx default_g).1
    intro g
    by_cases hc : E1 = 12
    · rw [if_pos hc] at hf
      subst hc
      obtain ⟨hv, hh⟩ := Prod.mk.inj (Option.some.inj hf)
      subst hv
      subst hh
      refine CW.of (by decide) (by show _ ≤ 6; exact Nat.le_of_ble_eq_true rfl) (by omega) (fun X ok nmx tb lev en => ?_)
      refine tj_aload ok 4 dL_race_0 rfl ?_
      refine tj_iconst (v := 0) ok dL_race_2 (by decide) ?_
      refine tj_aload_n ok 0 dL_race_3 rfl rfl ?_
      refine tj_iload_n ok 1 dL_race_4 rfl rfl ?_
      refine tj_iload_n ok 2 dL_race_5 rfl rfl ?_
      refine tj_iload_n ok 3 dL_race_6 rfl rfl ?_
      refine tj_catV (rest := ([.inl ((0 : Int32)), .inr (.inr (a4))] : List TV).map (vl g)) (as := [.inl (a1), .inl (a2), .inl (a3)]) ok tb lev (by omega) fcX10.1 (by decide) rfl (of_if e1).1 (kx g) (CaX.of en (by omega)) kn_X10_race wm_1289 wm_1290 wm_1291 (rs_ok (Nat.le_of_ble_eq_true rfl)) rfl dL_race_7 (Or.inl ⟨_, _, rfl, by decide, by decide, rfl, wm_1246, hx_w (lv' := [(0, .inr (.inr (a0))), (1, .inl (a1)), (2, .inl (a2)), (3, .inl (a3)), (4, .inr (.inr (a4)))]) ok dL_race_15 (by decide) rfl ?_⟩)
      refine tj_iconst (v := 1) ok dL_race_17 (by decide) ?_
      exact tj_ireturn ok en dL_race_18
    · rw [if_neg hc] at hf
      have hc13 : E1 = 13 := hE.resolve_left hc
      subst hc13
      obtain ⟨hv, hh⟩ := Prod.mk.inj (Option.some.inj hf)
      subst hv
      subst hh
      refine CW.of (by decide) (by show _ ≤ 6; exact Nat.le_of_ble_eq_true rfl) (by omega) (fun X ok nmx tb lev en => ?_)
      refine tj_aload ok 4 dL_race_0 rfl ?_
      refine tj_iconst (v := 0) ok dL_race_2 (by decide) ?_
      refine tj_aload_n ok 0 dL_race_3 rfl rfl ?_
      refine tj_iload_n ok 1 dL_race_4 rfl rfl ?_
      refine tj_iload_n ok 2 dL_race_5 rfl rfl ?_
      refine tj_iload_n ok 3 dL_race_6 rfl rfl ?_
      refine tj_catV (rest := ([.inl ((0 : Int32)), .inr (.inr (a4))] : List TV).map (vl g)) (as := [.inl (a1), .inl (a2), .inl (a3)]) ok tb lev (by omega) fcX10.1 (by decide) rfl (of_if e1).1 (kx g) (CaX.of en (by omega)) kn_X10_race wm_1289 wm_1290 wm_1291 (rs_ok (Nat.le_of_ble_eq_true rfl)) rfl dL_race_7 (Or.inr ⟨_, _, _, rfl, by decide, by decide, wm_1246, by decide, by decide, rfl, wm_1247, hx_w (lv' := [(0, .inr (.inr (a0))), (1, .inl (a1)), (2, .inl (a2)), (3, .inl (a3)), (4, .inr (.inr (a4)))]) ok dL_race_19 (by decide) rfl ?_⟩)
      refine tj_iconst (v := 2) ok dL_race_21 (by decide) ?_
      exact tj_ireturn ok en dL_race_22
/-! ===== LitmusHouseLaw.races(LLitmusHouse;I[J)I ===== -/
theorem kw_L_races : Kw yL_races cL_races 4 (some .int) [(0, 9, 12, 13), (0, 9, 15, 23)] 3 := ⟨wm_1292, wm_1242, by decide +kernel, by decide⟩
def b_L_races_18  (h : AH) : Option (Int32 × AH) :=
  some ((0 : Int32), h)
set_option maxHeartbeats 4000000 in
set_option maxRecDepth 100000 in
theorem q_L_races_18 {h hE : AH} {v : Int32} (hf : b_L_races_18  h = some (v, hE)) : JD cL_races 4 RL "races" (some .int) (148) 18 [] [] h hE (some (.inl (v))) := by
  unfold b_L_races_18 at hf
  obtain ⟨hv, hh⟩ := Prod.mk.inj (Option.some.inj hf)
  subst hv
  subst hh
  have mE : hp_n h ≤ hp_n h ∧ hp_s h ≤ hp_s h := ⟨Nat.le_refl _, Nat.le_refl _⟩
  refine ⟨by omega, fun X g K ok nmx lev hK en => ?_⟩
  refine tj_iconst (v := 0) ok dL_races_18 (by decide) ?_
  exact tj_ireturn ok en dL_races_19
def b_L_races_0 (a0 : Nat) (a1 : Int32) (a2 : Nat) (h : AH) : Option (Int32 × AH) :=
  (ok_v h a0 10).bind fun x1 => (f_X10_races a0 a1 h).bind fun q2 => (s_j q2.2 a2 (0 : Int32) q2.1.toInt64).bind fun h3 => b_L_races_18 h3
set_option maxHeartbeats 4000000 in
set_option maxRecDepth 100000 in
theorem q_L_races_0 {a0 : Nat} {a1 : Int32} {a2 : Nat} {h hE : AH} {v : Int32} (hf : b_L_races_0 a0 a1 a2 h = some (v, hE)) : JD cL_races 4 RL "races" (some .int) (148) 0 [(0, .inr (.inr (a0))), (1, .inl (a1)), (2, .inr (.inr (a2)))] [] h hE (some (.inl (v))) := by
  unfold b_L_races_0 at hf
  obtain ⟨x1, e1, hf⟩ := bnd hf
  obtain ⟨⟨x2, h2⟩, e2, hf⟩ := bnd hf
  try dsimp only at hf
  have k2 := c_X10_races e2
  have m2 := (k2 default_g).1
  obtain ⟨h3, e3, hf⟩ := bnd hf
  have m3 := nn_sj e3
  have J := q_L_races_18 hf
  have mE := J.1
  refine ⟨by omega, fun X g K ok nmx lev hK en => ?_⟩
  refine tj_aload_n ok 2 dL_races_0 rfl rfl ?_
  refine tj_iconst (v := 0) ok dL_races_1 (by decide) ?_
  refine tj_aload_n ok 0 dL_races_2 rfl rfl ?_
  refine tj_iload_n ok 1 dL_races_3 rfl rfl ?_
  refine tj_callV (rest := ([.inl ((0 : Int32)), .inr (.inr (a2))] : List TV).map (vl g)) (as := [.inl (a1)]) ok lev (by omega) fcX10.1 (by decide) rfl (of_if e1).1 (k2 g) (CaX.of en (by omega)) kn_X10_races wm_1293 wm_1294 wm_1295 (rs_ok (Nat.le_of_ble_eq_true rfl)) rfl rfl dL_races_4 ?_
  refine tj_i2l ok dL_races_7 ?_
  refine tj_lastore ok dL_races_8 e3 ?_
  refine tj_goto (tgt := 18) ok dL_races_9 (by decide) ?_
  refine tj_sub (lv' := []) [] rfl ?_
  exact J.2 X g K ok nmx lev hK en
def f_L_races (a0 : Nat) (a1 : Int32) (a2 : Nat) (h : AH) : Option (Int32 × AH) := orE (b_L_races_0 a0 a1 a2 h) ((ok_v h a0 10).bind fun x1 => (x_X10_races a0 a1 h).bind fun q9 => if q9.1 = 12 then some ((1 : Int32), q9.2) else some ((2 : Int32), q9.2))
set_option maxHeartbeats 4000000 in
set_option maxRecDepth 100000 in
theorem c_L_races {a0 : Nat} {a1 : Int32} {a2 : Nat} {h hE : AH} {v : Int32} (hf : f_L_races a0 a1 a2 h = some (v, hE)) : ∀ g : GT, CW g 148 yL_races cL_races 4 (some .int) [(0, 9, 12, 13), (0, 9, 15, 23)] h [.inr (.inr (a0)), .inl (a1), .inr (.inr (a2))] hE (some (.inl (v))) := by
  rcases orE_of hf with hf | hf
  · exact CW.ofJ (by decide) (by show _ ≤ 4; exact Nat.le_of_ble_eq_true rfl) (q_L_races_0 hf)
  · obtain ⟨x1, e1, hf⟩ := bnd hf
    obtain ⟨⟨E1, h9⟩, e9, hf⟩ := bnd hf
    dsimp only at hf
    obtain ⟨hE, kx⟩ := cx_X10_races e9
    have mE := (kx default_g).1
    intro g
    by_cases hc : E1 = 12
    · rw [if_pos hc] at hf
      subst hc
      obtain ⟨hv, hh⟩ := Prod.mk.inj (Option.some.inj hf)
      subst hv
      subst hh
      refine CW.of (by decide) (by show _ ≤ 4; exact Nat.le_of_ble_eq_true rfl) (by omega) (fun X ok nmx tb lev en => ?_)
      refine tj_aload_n ok 2 dL_races_0 rfl rfl ?_
      refine tj_iconst (v := 0) ok dL_races_1 (by decide) ?_
      refine tj_aload_n ok 0 dL_races_2 rfl rfl ?_
      refine tj_iload_n ok 1 dL_races_3 rfl rfl ?_
      refine tj_catV (rest := ([.inl ((0 : Int32)), .inr (.inr (a2))] : List TV).map (vl g)) (as := [.inl (a1)]) ok tb lev (by omega) fcX10.1 (by decide) rfl (of_if e1).1 (kx g) (CaX.of en (by omega)) kn_X10_races wm_1293 wm_1294 wm_1295 (rs_ok (Nat.le_of_ble_eq_true rfl)) rfl dL_races_4 (Or.inl ⟨_, _, rfl, by decide, by decide, rfl, wm_1246, hx_n (lv' := [(0, .inr (.inr (a0))), (1, .inl (a1)), (2, .inr (.inr (a2)))]) ok dL_races_12 rfl (by decide) rfl ?_⟩)
      refine tj_iconst (v := 1) ok dL_races_13 (by decide) ?_
      exact tj_ireturn ok en dL_races_14
    · rw [if_neg hc] at hf
      have hc13 : E1 = 13 := hE.resolve_left hc
      subst hc13
      obtain ⟨hv, hh⟩ := Prod.mk.inj (Option.some.inj hf)
      subst hv
      subst hh
      refine CW.of (by decide) (by show _ ≤ 4; exact Nat.le_of_ble_eq_true rfl) (by omega) (fun X ok nmx tb lev en => ?_)
      refine tj_aload_n ok 2 dL_races_0 rfl rfl ?_
      refine tj_iconst (v := 0) ok dL_races_1 (by decide) ?_
      refine tj_aload_n ok 0 dL_races_2 rfl rfl ?_
      refine tj_iload_n ok 1 dL_races_3 rfl rfl ?_
      refine tj_catV (rest := ([.inl ((0 : Int32)), .inr (.inr (a2))] : List TV).map (vl g)) (as := [.inl (a1)]) ok tb lev (by omega) fcX10.1 (by decide) rfl (of_if e1).1 (kx g) (CaX.of en (by omega)) kn_X10_races wm_1293 wm_1294 wm_1295 (rs_ok (Nat.le_of_ble_eq_true rfl)) rfl dL_races_4 (Or.inr ⟨_, _, _, rfl, by decide, by decide, wm_1246, by decide, by decide, rfl, wm_1247, hx_n (lv' := [(0, .inr (.inr (a0))), (1, .inl (a1)), (2, .inr (.inr (a2)))]) ok dL_races_15 rfl (by decide) rfl ?_⟩)
      refine tj_iconst (v := 2) ok dL_races_16 (by decide) ?_
      exact tj_ireturn ok en dL_races_17
/-! ===== LitmusHouseLaw.same(LLitmusHouse;II[J)I ===== -/
theorem kw_L_same : Kw yL_same cL_same 5 (some .int) [(0, 17, 20, 13), (0, 17, 24, 23)] 4 := ⟨wm_1296, wm_1242, by decide +kernel, by decide⟩
def b_L_same_28  (h : AH) : Option (Int32 × AH) :=
  some ((0 : Int32), h)
set_option maxHeartbeats 4000000 in
set_option maxRecDepth 100000 in
theorem q_L_same_28 {h hE : AH} {v : Int32} (hf : b_L_same_28  h = some (v, hE)) : JD cL_same 5 RL "same" (some .int) (13) 28 [] [] h hE (some (.inl (v))) := by
  unfold b_L_same_28 at hf
  obtain ⟨hv, hh⟩ := Prod.mk.inj (Option.some.inj hf)
  subst hv
  subst hh
  have mE : hp_n h ≤ hp_n h ∧ hp_s h ≤ hp_s h := ⟨Nat.le_refl _, Nat.le_refl _⟩
  refine ⟨by omega, fun X g K ok nmx lev hK en => ?_⟩
  refine tj_iconst (v := 0) ok dL_same_28 (by decide) ?_
  exact tj_ireturn ok en dL_same_29
def b_L_same_16 (s0 : Nat) (s1 : Int32) (s2 : Int64) (h : AH) : Option (Int32 × AH) :=
  (s_j h s0 s1 s2).bind fun h1 => b_L_same_28 h1
set_option maxHeartbeats 4000000 in
set_option maxRecDepth 100000 in
theorem q_L_same_16 {s0 : Nat} {s1 : Int32} {s2 : Int64} {h hE : AH} {v : Int32} (hf : b_L_same_16 s0 s1 s2 h = some (v, hE)) : JD cL_same 5 RL "same" (some .int) (13) 16 [] [.inr (.inl (s2)), .inl (s1), .inr (.inr (s0))] h hE (some (.inl (v))) := by
  unfold b_L_same_16 at hf
  obtain ⟨h1, e1, hf⟩ := bnd hf
  have m1 := nn_sj e1
  have J := q_L_same_28 hf
  have mE := J.1
  refine ⟨by omega, fun X g K ok nmx lev hK en => ?_⟩
  refine tj_lastore ok dL_same_16 e1 ?_
  refine tj_goto (tgt := 28) ok dL_same_17 (by decide) ?_
  exact J.2 X g K ok nmx lev hK en
def b_L_same_15 (s0 : Nat) (s1 : Int32) (h : AH) : Option (Int32 × AH) :=
  b_L_same_16 s0 s1 (0 : Int64) h
set_option maxHeartbeats 4000000 in
set_option maxRecDepth 100000 in
theorem q_L_same_15 {s0 : Nat} {s1 : Int32} {h hE : AH} {v : Int32} (hf : b_L_same_15 s0 s1 h = some (v, hE)) : JD cL_same 5 RL "same" (some .int) (13) 15 [] [.inl (s1), .inr (.inr (s0))] h hE (some (.inl (v))) := by
  unfold b_L_same_15 at hf
  have J := q_L_same_16 hf
  have mE := J.1
  refine ⟨by omega, fun X g K ok nmx lev hK en => ?_⟩
  refine tj_lconst (v := 0) ok dL_same_15 (by decide) ?_
  exact J.2 X g K ok nmx lev hK en
def b_L_same_11 (s0 : Nat) (s1 : Int32) (h : AH) : Option (Int32 × AH) :=
  b_L_same_16 s0 s1 (1 : Int64) h
set_option maxHeartbeats 4000000 in
set_option maxRecDepth 100000 in
theorem q_L_same_11 {s0 : Nat} {s1 : Int32} {h hE : AH} {v : Int32} (hf : b_L_same_11 s0 s1 h = some (v, hE)) : JD cL_same 5 RL "same" (some .int) (13) 11 [] [.inl (s1), .inr (.inr (s0))] h hE (some (.inl (v))) := by
  unfold b_L_same_11 at hf
  have J := q_L_same_16 hf
  have mE := J.1
  refine ⟨by omega, fun X g K ok nmx lev hK en => ?_⟩
  refine tj_lconst (v := 1) ok dL_same_11 (by decide) ?_
  refine tj_goto (tgt := 16) ok dL_same_12 (by decide) ?_
  exact J.2 X g K ok nmx lev hK en
def b_L_same_0 (a0 : Nat) (a1 : Int32) (a2 : Int32) (a3 : Nat) (h : AH) : Option (Int32 × AH) :=
  (ok_v h a0 10).bind fun x1 => (f_X10_same a0 a1 a2 h).bind fun q2 => if q2.1 = 0 then b_L_same_15 a3 (0 : Int32) q2.2 else b_L_same_11 a3 (0 : Int32) q2.2
set_option maxHeartbeats 4000000 in
set_option maxRecDepth 100000 in
theorem q_L_same_0 {a0 : Nat} {a1 : Int32} {a2 : Int32} {a3 : Nat} {h hE : AH} {v : Int32} (hf : b_L_same_0 a0 a1 a2 a3 h = some (v, hE)) : JD cL_same 5 RL "same" (some .int) (13) 0 [(0, .inr (.inr (a0))), (1, .inl (a1)), (2, .inl (a2)), (3, .inr (.inr (a3)))] [] h hE (some (.inl (v))) := by
  unfold b_L_same_0 at hf
  obtain ⟨x1, e1, hf⟩ := bnd hf
  obtain ⟨⟨x2, h2⟩, e2, hf⟩ := bnd hf
  try dsimp only at hf
  have k2 := c_X10_same e2
  have m2 := (k2 default_g).1
  have mE : hp_n h2 ≤ hp_n hE ∧ hp_s h2 ≤ hp_s hE := by
    by_cases hc : x2 = 0
    · rw [if_pos hc] at hf; exact (q_L_same_15 hf).1
    · rw [if_neg hc] at hf; exact (q_L_same_11 hf).1
  refine ⟨by omega, fun X g K ok nmx lev hK en => ?_⟩
  refine tj_aload_n ok 3 dL_same_0 rfl rfl ?_
  refine tj_iconst (v := 0) ok dL_same_1 (by decide) ?_
  refine tj_aload_n ok 0 dL_same_2 rfl rfl ?_
  refine tj_iload_n ok 1 dL_same_3 rfl rfl ?_
  refine tj_iload_n ok 2 dL_same_4 rfl rfl ?_
  refine tj_callV (rest := ([.inl ((0 : Int32)), .inr (.inr (a3))] : List TV).map (vl g)) (as := [.inl (a1), .inl (a2)]) ok lev (by omega) fcX10.1 (by decide) rfl (of_if e1).1 (k2 g) (CaX.of en (by omega)) kn_X10_same wm_1297 wm_1298 wm_1299 (rs_ok (Nat.le_of_ble_eq_true rfl)) rfl rfl dL_same_5 ?_
  refine tj_if_eq (tgt := 15) ok dL_same_8 (by decide) (fun hc => ?_) (fun hc => ?_)
  · rw [if_pos hc] at hf
    refine tj_sub (lv' := []) [] rfl ?_
    exact (q_L_same_15 hf).2 X g K ok nmx lev hK en
  · rw [if_neg hc] at hf
    refine tj_sub (lv' := []) [] rfl ?_
    exact (q_L_same_11 hf).2 X g K ok nmx lev hK en
def f_L_same (a0 : Nat) (a1 : Int32) (a2 : Int32) (a3 : Nat) (h : AH) : Option (Int32 × AH) := orE (b_L_same_0 a0 a1 a2 a3 h) ((ok_v h a0 10).bind fun x1 => (x_X10_same a0 a1 a2 h).bind fun q9 => if q9.1 = 12 then some ((1 : Int32), q9.2) else some ((2 : Int32), q9.2))
set_option maxHeartbeats 4000000 in
set_option maxRecDepth 100000 in
theorem c_L_same {a0 : Nat} {a1 : Int32} {a2 : Int32} {a3 : Nat} {h hE : AH} {v : Int32} (hf : f_L_same a0 a1 a2 a3 h = some (v, hE)) : ∀ g : GT, CW g 13 yL_same cL_same 5 (some .int) [(0, 17, 20, 13), (0, 17, 24, 23)] h [.inr (.inr (a0)), .inl (a1), .inl (a2), .inr (.inr (a3))] hE (some (.inl (v))) := by
  rcases orE_of hf with hf | hf
  · exact CW.ofJ (by decide) (by show _ ≤ 5; exact Nat.le_of_ble_eq_true rfl) (q_L_same_0 hf)
  · obtain ⟨x1, e1, hf⟩ := bnd hf
    obtain ⟨⟨E1, h9⟩, e9, hf⟩ := bnd hf
    dsimp only at hf
    obtain ⟨hE, kx⟩ := cx_X10_same e9
    have mE := (kx default_g).1
    intro g
    by_cases hc : E1 = 12
    · rw [if_pos hc] at hf
      subst hc
      obtain ⟨hv, hh⟩ := Prod.mk.inj (Option.some.inj hf)
      subst hv
      subst hh
      refine CW.of (by decide) (by show _ ≤ 5; exact Nat.le_of_ble_eq_true rfl) (by omega) (fun X ok nmx tb lev en => ?_)
      refine tj_aload_n ok 3 dL_same_0 rfl rfl ?_
      refine tj_iconst (v := 0) ok dL_same_1 (by decide) ?_
      refine tj_aload_n ok 0 dL_same_2 rfl rfl ?_
      refine tj_iload_n ok 1 dL_same_3 rfl rfl ?_
      refine tj_iload_n ok 2 dL_same_4 rfl rfl ?_
      refine tj_catV (rest := ([.inl ((0 : Int32)), .inr (.inr (a3))] : List TV).map (vl g)) (as := [.inl (a1), .inl (a2)]) ok tb lev (by omega) fcX10.1 (by decide) rfl (of_if e1).1 (kx g) (CaX.of en (by omega)) kn_X10_same wm_1297 wm_1298 wm_1299 (rs_ok (Nat.le_of_ble_eq_true rfl)) rfl dL_same_5 (Or.inl ⟨_, _, rfl, by decide, by decide, rfl, wm_1246, hx_w (lv' := [(0, .inr (.inr (a0))), (1, .inl (a1)), (2, .inl (a2)), (3, .inr (.inr (a3)))]) ok dL_same_20 (by decide) rfl ?_⟩)
      refine tj_iconst (v := 1) ok dL_same_22 (by decide) ?_
      exact tj_ireturn ok en dL_same_23
    · rw [if_neg hc] at hf
      have hc13 : E1 = 13 := hE.resolve_left hc
      subst hc13
      obtain ⟨hv, hh⟩ := Prod.mk.inj (Option.some.inj hf)
      subst hv
      subst hh
      refine CW.of (by decide) (by show _ ≤ 5; exact Nat.le_of_ble_eq_true rfl) (by omega) (fun X ok nmx tb lev en => ?_)
      refine tj_aload_n ok 3 dL_same_0 rfl rfl ?_
      refine tj_iconst (v := 0) ok dL_same_1 (by decide) ?_
      refine tj_aload_n ok 0 dL_same_2 rfl rfl ?_
      refine tj_iload_n ok 1 dL_same_3 rfl rfl ?_
      refine tj_iload_n ok 2 dL_same_4 rfl rfl ?_
      refine tj_catV (rest := ([.inl ((0 : Int32)), .inr (.inr (a3))] : List TV).map (vl g)) (as := [.inl (a1), .inl (a2)]) ok tb lev (by omega) fcX10.1 (by decide) rfl (of_if e1).1 (kx g) (CaX.of en (by omega)) kn_X10_same wm_1297 wm_1298 wm_1299 (rs_ok (Nat.le_of_ble_eq_true rfl)) rfl dL_same_5 (Or.inr ⟨_, _, _, rfl, by decide, by decide, wm_1246, by decide, by decide, rfl, wm_1247, hx_w (lv' := [(0, .inr (.inr (a0))), (1, .inl (a1)), (2, .inl (a2)), (3, .inr (.inr (a3)))]) ok dL_same_24 (by decide) rfl ?_⟩)
      refine tj_iconst (v := 2) ok dL_same_26 (by decide) ?_
      exact tj_ireturn ok en dL_same_27
/-! ===== LitmusHouseLaw.stuck(LLitmusHouse;III[J)I ===== -/
theorem kw_L_stuck : Kw yL_stuck cL_stuck 6 (some .int) [(0, 12, 15, 13), (0, 12, 19, 23)] 5 := ⟨wm_1300, wm_1242, by decide +kernel, by decide⟩
def b_L_stuck_23  (h : AH) : Option (Int32 × AH) :=
  some ((0 : Int32), h)
set_option maxHeartbeats 4000000 in
set_option maxRecDepth 100000 in
theorem q_L_stuck_23 {h hE : AH} {v : Int32} (hf : b_L_stuck_23  h = some (v, hE)) : JD cL_stuck 6 RL "stuck" (some .int) (148) 23 [] [] h hE (some (.inl (v))) := by
  unfold b_L_stuck_23 at hf
  obtain ⟨hv, hh⟩ := Prod.mk.inj (Option.some.inj hf)
  subst hv
  subst hh
  have mE : hp_n h ≤ hp_n h ∧ hp_s h ≤ hp_s h := ⟨Nat.le_refl _, Nat.le_refl _⟩
  refine ⟨by omega, fun X g K ok nmx lev hK en => ?_⟩
  refine tj_iconst (v := 0) ok dL_stuck_23 (by decide) ?_
  exact tj_ireturn ok en dL_stuck_24
def b_L_stuck_0 (a0 : Nat) (a1 : Int32) (a2 : Int32) (a3 : Int32) (a4 : Nat) (h : AH) : Option (Int32 × AH) :=
  (ok_v h a0 10).bind fun x1 => (f_X10_stuck a0 a1 a2 a3 h).bind fun q2 => (s_j q2.2 a4 (0 : Int32) q2.1.toInt64).bind fun h3 => b_L_stuck_23 h3
set_option maxHeartbeats 4000000 in
set_option maxRecDepth 100000 in
theorem q_L_stuck_0 {a0 : Nat} {a1 : Int32} {a2 : Int32} {a3 : Int32} {a4 : Nat} {h hE : AH} {v : Int32} (hf : b_L_stuck_0 a0 a1 a2 a3 a4 h = some (v, hE)) : JD cL_stuck 6 RL "stuck" (some .int) (148) 0 [(0, .inr (.inr (a0))), (1, .inl (a1)), (2, .inl (a2)), (3, .inl (a3)), (4, .inr (.inr (a4)))] [] h hE (some (.inl (v))) := by
  unfold b_L_stuck_0 at hf
  obtain ⟨x1, e1, hf⟩ := bnd hf
  obtain ⟨⟨x2, h2⟩, e2, hf⟩ := bnd hf
  try dsimp only at hf
  have k2 := c_X10_stuck e2
  have m2 := (k2 default_g).1
  obtain ⟨h3, e3, hf⟩ := bnd hf
  have m3 := nn_sj e3
  have J := q_L_stuck_23 hf
  have mE := J.1
  refine ⟨by omega, fun X g K ok nmx lev hK en => ?_⟩
  refine tj_aload ok 4 dL_stuck_0 rfl ?_
  refine tj_iconst (v := 0) ok dL_stuck_2 (by decide) ?_
  refine tj_aload_n ok 0 dL_stuck_3 rfl rfl ?_
  refine tj_iload_n ok 1 dL_stuck_4 rfl rfl ?_
  refine tj_iload_n ok 2 dL_stuck_5 rfl rfl ?_
  refine tj_iload_n ok 3 dL_stuck_6 rfl rfl ?_
  refine tj_callV (rest := ([.inl ((0 : Int32)), .inr (.inr (a4))] : List TV).map (vl g)) (as := [.inl (a1), .inl (a2), .inl (a3)]) ok lev (by omega) fcX10.1 (by decide) rfl (of_if e1).1 (k2 g) (CaX.of en (by omega)) kn_X10_stuck wm_1301 wm_1302 wm_1303 (rs_ok (Nat.le_of_ble_eq_true rfl)) rfl rfl dL_stuck_7 ?_
  refine tj_i2l ok dL_stuck_10 ?_
  refine tj_lastore ok dL_stuck_11 e3 ?_
  refine tj_goto (tgt := 23) ok dL_stuck_12 (by decide) ?_
  refine tj_sub (lv' := []) [] rfl ?_
  exact J.2 X g K ok nmx lev hK en
def f_L_stuck (a0 : Nat) (a1 : Int32) (a2 : Int32) (a3 : Int32) (a4 : Nat) (h : AH) : Option (Int32 × AH) := orE (b_L_stuck_0 a0 a1 a2 a3 a4 h) ((ok_v h a0 10).bind fun x1 => (x_X10_stuck a0 a1 a2 a3 h).bind fun q9 => if q9.1 = 12 then some ((1 : Int32), q9.2) else some ((2 : Int32), q9.2))
set_option maxHeartbeats 4000000 in
set_option maxRecDepth 100000 in
theorem c_L_stuck {a0 : Nat} {a1 : Int32} {a2 : Int32} {a3 : Int32} {a4 : Nat} {h hE : AH} {v : Int32} (hf : f_L_stuck a0 a1 a2 a3 a4 h = some (v, hE)) : ∀ g : GT, CW g 148 yL_stuck cL_stuck 6 (some .int) [(0, 12, 15, 13), (0, 12, 19, 23)] h [.inr (.inr (a0)), .inl (a1), .inl (a2), .inl (a3), .inr (.inr (a4))] hE (some (.inl (v))) := by
  rcases orE_of hf with hf | hf
  · exact CW.ofJ (by decide) (by show _ ≤ 6; exact Nat.le_of_ble_eq_true rfl) (q_L_stuck_0 hf)
  · obtain ⟨x1, e1, hf⟩ := bnd hf
    obtain ⟨⟨E1, h9⟩, e9, hf⟩ := bnd hf
    dsimp only at hf
    obtain ⟨hE, kx⟩ := cx_X10_stuck e9
    have mE := (kx default_g).1
    intro g
    by_cases hc : E1 = 12
    · rw [if_pos hc] at hf
      subst hc
      obtain ⟨hv, hh⟩ := Prod.mk.inj (Option.some.inj hf)
      subst hv
      subst hh
      refine CW.of (by decide) (by show _ ≤ 6; exact Nat.le_of_ble_eq_true rfl) (by omega) (fun X ok nmx tb lev en => ?_)
      refine tj_aload ok 4 dL_stuck_0 rfl ?_
      refine tj_iconst (v := 0) ok dL_stuck_2 (by decide) ?_
      refine tj_aload_n ok 0 dL_stuck_3 rfl rfl ?_
      refine tj_iload_n ok 1 dL_stuck_4 rfl rfl ?_
      refine tj_iload_n ok 2 dL_stuck_5 rfl rfl ?_
      refine tj_iload_n ok 3 dL_stuck_6 rfl rfl ?_
      refine tj_catV (rest := ([.inl ((0 : Int32)), .inr (.inr (a4))] : List TV).map (vl g)) (as := [.inl (a1), .inl (a2), .inl (a3)]) ok tb lev (by omega) fcX10.1 (by decide) rfl (of_if e1).1 (kx g) (CaX.of en (by omega)) kn_X10_stuck wm_1301 wm_1302 wm_1303 (rs_ok (Nat.le_of_ble_eq_true rfl)) rfl dL_stuck_7 (Or.inl ⟨_, _, rfl, by decide, by decide, rfl, wm_1246, hx_w (lv' := [(0, .inr (.inr (a0))), (1, .inl (a1)), (2, .inl (a2)), (3, .inl (a3)), (4, .inr (.inr (a4)))]) ok dL_stuck_15 (by decide) rfl ?_⟩)
      refine tj_iconst (v := 1) ok dL_stuck_17 (by decide) ?_
      exact tj_ireturn ok en dL_stuck_18
    · rw [if_neg hc] at hf
      have hc13 : E1 = 13 := hE.resolve_left hc
      subst hc13
      obtain ⟨hv, hh⟩ := Prod.mk.inj (Option.some.inj hf)
      subst hv
      subst hh
      refine CW.of (by decide) (by show _ ≤ 6; exact Nat.le_of_ble_eq_true rfl) (by omega) (fun X ok nmx tb lev en => ?_)
      refine tj_aload ok 4 dL_stuck_0 rfl ?_
      refine tj_iconst (v := 0) ok dL_stuck_2 (by decide) ?_
      refine tj_aload_n ok 0 dL_stuck_3 rfl rfl ?_
      refine tj_iload_n ok 1 dL_stuck_4 rfl rfl ?_
      refine tj_iload_n ok 2 dL_stuck_5 rfl rfl ?_
      refine tj_iload_n ok 3 dL_stuck_6 rfl rfl ?_
      refine tj_catV (rest := ([.inl ((0 : Int32)), .inr (.inr (a4))] : List TV).map (vl g)) (as := [.inl (a1), .inl (a2), .inl (a3)]) ok tb lev (by omega) fcX10.1 (by decide) rfl (of_if e1).1 (kx g) (CaX.of en (by omega)) kn_X10_stuck wm_1301 wm_1302 wm_1303 (rs_ok (Nat.le_of_ble_eq_true rfl)) rfl dL_stuck_7 (Or.inr ⟨_, _, _, rfl, by decide, by decide, wm_1246, by decide, by decide, rfl, wm_1247, hx_w (lv' := [(0, .inr (.inr (a0))), (1, .inl (a1)), (2, .inl (a2)), (3, .inl (a3)), (4, .inr (.inr (a4)))]) ok dL_stuck_19 (by decide) rfl ?_⟩)
      refine tj_iconst (v := 2) ok dL_stuck_21 (by decide) ?_
      exact tj_ireturn ok en dL_stuck_22
/-! ===== LitmusHouseLaw.value(LLitmusHouse;IIII[J)I ===== -/
theorem kw_L_value : Kw yL_value cL_value 7 (some .int) [(0, 14, 17, 13), (0, 14, 21, 23)] 6 := ⟨wm_1304, wm_1242, by decide +kernel, by decide⟩
def b_L_value_25  (h : AH) : Option (Int32 × AH) :=
  some ((0 : Int32), h)
set_option maxHeartbeats 4000000 in
set_option maxRecDepth 100000 in
theorem q_L_value_25 {h hE : AH} {v : Int32} (hf : b_L_value_25  h = some (v, hE)) : JD cL_value 7 RL "value" (some .int) (148) 25 [] [] h hE (some (.inl (v))) := by
  unfold b_L_value_25 at hf
  obtain ⟨hv, hh⟩ := Prod.mk.inj (Option.some.inj hf)
  subst hv
  subst hh
  have mE : hp_n h ≤ hp_n h ∧ hp_s h ≤ hp_s h := ⟨Nat.le_refl _, Nat.le_refl _⟩
  refine ⟨by omega, fun X g K ok nmx lev hK en => ?_⟩
  refine tj_iconst (v := 0) ok dL_value_25 (by decide) ?_
  exact tj_ireturn ok en dL_value_26
def b_L_value_0 (a0 : Nat) (a1 : Int32) (a2 : Int32) (a3 : Int32) (a4 : Int32) (a5 : Nat) (h : AH) : Option (Int32 × AH) :=
  (ok_v h a0 10).bind fun x1 => (f_X10_value a0 a1 a2 a3 a4 h).bind fun q2 => (s_j q2.2 a5 (0 : Int32) q2.1.toInt64).bind fun h3 => b_L_value_25 h3
set_option maxHeartbeats 4000000 in
set_option maxRecDepth 100000 in
theorem q_L_value_0 {a0 : Nat} {a1 : Int32} {a2 : Int32} {a3 : Int32} {a4 : Int32} {a5 : Nat} {h hE : AH} {v : Int32} (hf : b_L_value_0 a0 a1 a2 a3 a4 a5 h = some (v, hE)) : JD cL_value 7 RL "value" (some .int) (148) 0 [(0, .inr (.inr (a0))), (1, .inl (a1)), (2, .inl (a2)), (3, .inl (a3)), (4, .inl (a4)), (5, .inr (.inr (a5)))] [] h hE (some (.inl (v))) := by
  unfold b_L_value_0 at hf
  obtain ⟨x1, e1, hf⟩ := bnd hf
  obtain ⟨⟨x2, h2⟩, e2, hf⟩ := bnd hf
  try dsimp only at hf
  have k2 := c_X10_value e2
  have m2 := (k2 default_g).1
  obtain ⟨h3, e3, hf⟩ := bnd hf
  have m3 := nn_sj e3
  have J := q_L_value_25 hf
  have mE := J.1
  refine ⟨by omega, fun X g K ok nmx lev hK en => ?_⟩
  refine tj_aload ok 5 dL_value_0 rfl ?_
  refine tj_iconst (v := 0) ok dL_value_2 (by decide) ?_
  refine tj_aload_n ok 0 dL_value_3 rfl rfl ?_
  refine tj_iload_n ok 1 dL_value_4 rfl rfl ?_
  refine tj_iload_n ok 2 dL_value_5 rfl rfl ?_
  refine tj_iload_n ok 3 dL_value_6 rfl rfl ?_
  refine tj_iload ok 4 dL_value_7 rfl ?_
  refine tj_callV (rest := ([.inl ((0 : Int32)), .inr (.inr (a5))] : List TV).map (vl g)) (as := [.inl (a1), .inl (a2), .inl (a3), .inl (a4)]) ok lev (by omega) fcX10.1 (by decide) rfl (of_if e1).1 (k2 g) (CaX.of en (by omega)) kn_X10_value wm_1305 wm_1306 wm_1307 (rs_ok (Nat.le_of_ble_eq_true rfl)) rfl rfl dL_value_9 ?_
  refine tj_i2l ok dL_value_12 ?_
  refine tj_lastore ok dL_value_13 e3 ?_
  refine tj_goto (tgt := 25) ok dL_value_14 (by decide) ?_
  refine tj_sub (lv' := []) [] rfl ?_
  exact J.2 X g K ok nmx lev hK en
def f_L_value (a0 : Nat) (a1 : Int32) (a2 : Int32) (a3 : Int32) (a4 : Int32) (a5 : Nat) (h : AH) : Option (Int32 × AH) := orE (b_L_value_0 a0 a1 a2 a3 a4 a5 h) ((ok_v h a0 10).bind fun x1 => (x_X10_value a0 a1 a2 a3 a4 h).bind fun q9 => if q9.1 = 12 then some ((1 : Int32), q9.2) else some ((2 : Int32), q9.2))
set_option maxHeartbeats 4000000 in
set_option maxRecDepth 100000 in
theorem c_L_value {a0 : Nat} {a1 : Int32} {a2 : Int32} {a3 : Int32} {a4 : Int32} {a5 : Nat} {h hE : AH} {v : Int32} (hf : f_L_value a0 a1 a2 a3 a4 a5 h = some (v, hE)) : ∀ g : GT, CW g 148 yL_value cL_value 7 (some .int) [(0, 14, 17, 13), (0, 14, 21, 23)] h [.inr (.inr (a0)), .inl (a1), .inl (a2), .inl (a3), .inl (a4), .inr (.inr (a5))] hE (some (.inl (v))) := by
  rcases orE_of hf with hf | hf
  · exact CW.ofJ (by decide) (by show _ ≤ 7; exact Nat.le_of_ble_eq_true rfl) (q_L_value_0 hf)
  · obtain ⟨x1, e1, hf⟩ := bnd hf
    obtain ⟨⟨E1, h9⟩, e9, hf⟩ := bnd hf
    dsimp only at hf
    obtain ⟨hE, kx⟩ := cx_X10_value e9
    have mE := (kx default_g).1
    intro g
    by_cases hc : E1 = 12
    · rw [if_pos hc] at hf
      subst hc
      obtain ⟨hv, hh⟩ := Prod.mk.inj (Option.some.inj hf)
      subst hv
      subst hh
      refine CW.of (by decide) (by show _ ≤ 7; exact Nat.le_of_ble_eq_true rfl) (by omega) (fun X ok nmx tb lev en => ?_)
      refine tj_aload ok 5 dL_value_0 rfl ?_
      refine tj_iconst (v := 0) ok dL_value_2 (by decide) ?_
      refine tj_aload_n ok 0 dL_value_3 rfl rfl ?_
      refine tj_iload_n ok 1 dL_value_4 rfl rfl ?_
      refine tj_iload_n ok 2 dL_value_5 rfl rfl ?_
      refine tj_iload_n ok 3 dL_value_6 rfl rfl ?_
      refine tj_iload ok 4 dL_value_7 rfl ?_
      refine tj_catV (rest := ([.inl ((0 : Int32)), .inr (.inr (a5))] : List TV).map (vl g)) (as := [.inl (a1), .inl (a2), .inl (a3), .inl (a4)]) ok tb lev (by omega) fcX10.1 (by decide) rfl (of_if e1).1 (kx g) (CaX.of en (by omega)) kn_X10_value wm_1305 wm_1306 wm_1307 (rs_ok (Nat.le_of_ble_eq_true rfl)) rfl dL_value_9 (Or.inl ⟨_, _, rfl, by decide, by decide, rfl, wm_1246, hx_w (lv' := [(0, .inr (.inr (a0))), (1, .inl (a1)), (2, .inl (a2)), (3, .inl (a3)), (4, .inl (a4)), (5, .inr (.inr (a5)))]) ok dL_value_17 (by decide) rfl ?_⟩)
      refine tj_iconst (v := 1) ok dL_value_19 (by decide) ?_
      exact tj_ireturn ok en dL_value_20
    · rw [if_neg hc] at hf
      have hc13 : E1 = 13 := hE.resolve_left hc
      subst hc13
      obtain ⟨hv, hh⟩ := Prod.mk.inj (Option.some.inj hf)
      subst hv
      subst hh
      refine CW.of (by decide) (by show _ ≤ 7; exact Nat.le_of_ble_eq_true rfl) (by omega) (fun X ok nmx tb lev en => ?_)
      refine tj_aload ok 5 dL_value_0 rfl ?_
      refine tj_iconst (v := 0) ok dL_value_2 (by decide) ?_
      refine tj_aload_n ok 0 dL_value_3 rfl rfl ?_
      refine tj_iload_n ok 1 dL_value_4 rfl rfl ?_
      refine tj_iload_n ok 2 dL_value_5 rfl rfl ?_
      refine tj_iload_n ok 3 dL_value_6 rfl rfl ?_
      refine tj_iload ok 4 dL_value_7 rfl ?_
      refine tj_catV (rest := ([.inl ((0 : Int32)), .inr (.inr (a5))] : List TV).map (vl g)) (as := [.inl (a1), .inl (a2), .inl (a3), .inl (a4)]) ok tb lev (by omega) fcX10.1 (by decide) rfl (of_if e1).1 (kx g) (CaX.of en (by omega)) kn_X10_value wm_1305 wm_1306 wm_1307 (rs_ok (Nat.le_of_ble_eq_true rfl)) rfl dL_value_9 (Or.inr ⟨_, _, _, rfl, by decide, by decide, wm_1246, by decide, by decide, rfl, wm_1247, hx_w (lv' := [(0, .inr (.inr (a0))), (1, .inl (a1)), (2, .inl (a2)), (3, .inl (a3)), (4, .inl (a4)), (5, .inr (.inr (a5)))]) ok dL_value_21 (by decide) rfl ?_⟩)
      refine tj_iconst (v := 2) ok dL_value_23 (by decide) ?_
      exact tj_ireturn ok en dL_value_24
/-! ===== LitmusHouseLaw.witness(LLitmusHouse;I[J)I ===== -/
theorem kw_L_witness : Kw yL_witness cL_witness 4 (some .int) [(0, 9, 12, 13), (0, 9, 15, 23)] 3 := ⟨wm_1308, wm_1242, by decide +kernel, by decide⟩
def b_L_witness_18  (h : AH) : Option (Int32 × AH) :=
  some ((0 : Int32), h)
set_option maxHeartbeats 4000000 in
set_option maxRecDepth 100000 in
theorem q_L_witness_18 {h hE : AH} {v : Int32} (hf : b_L_witness_18  h = some (v, hE)) : JD cL_witness 4 RL "witness" (some .int) (147) 18 [] [] h hE (some (.inl (v))) := by
  unfold b_L_witness_18 at hf
  obtain ⟨hv, hh⟩ := Prod.mk.inj (Option.some.inj hf)
  subst hv
  subst hh
  have mE : hp_n h ≤ hp_n h ∧ hp_s h ≤ hp_s h := ⟨Nat.le_refl _, Nat.le_refl _⟩
  refine ⟨by omega, fun X g K ok nmx lev hK en => ?_⟩
  refine tj_iconst (v := 0) ok dL_witness_18 (by decide) ?_
  exact tj_ireturn ok en dL_witness_19
def b_L_witness_0 (a0 : Nat) (a1 : Int32) (a2 : Nat) (h : AH) : Option (Int32 × AH) :=
  (ok_v h a0 10).bind fun x1 => (f_X10_witness a0 a1 h).bind fun q2 => (s_j q2.2 a2 (0 : Int32) q2.1.toInt64).bind fun h3 => b_L_witness_18 h3
set_option maxHeartbeats 4000000 in
set_option maxRecDepth 100000 in
theorem q_L_witness_0 {a0 : Nat} {a1 : Int32} {a2 : Nat} {h hE : AH} {v : Int32} (hf : b_L_witness_0 a0 a1 a2 h = some (v, hE)) : JD cL_witness 4 RL "witness" (some .int) (147) 0 [(0, .inr (.inr (a0))), (1, .inl (a1)), (2, .inr (.inr (a2)))] [] h hE (some (.inl (v))) := by
  unfold b_L_witness_0 at hf
  obtain ⟨x1, e1, hf⟩ := bnd hf
  obtain ⟨⟨x2, h2⟩, e2, hf⟩ := bnd hf
  try dsimp only at hf
  have k2 := c_X10_witness e2
  have m2 := (k2 default_g).1
  obtain ⟨h3, e3, hf⟩ := bnd hf
  have m3 := nn_sj e3
  have J := q_L_witness_18 hf
  have mE := J.1
  refine ⟨by omega, fun X g K ok nmx lev hK en => ?_⟩
  refine tj_aload_n ok 2 dL_witness_0 rfl rfl ?_
  refine tj_iconst (v := 0) ok dL_witness_1 (by decide) ?_
  refine tj_aload_n ok 0 dL_witness_2 rfl rfl ?_
  refine tj_iload_n ok 1 dL_witness_3 rfl rfl ?_
  refine tj_callV (rest := ([.inl ((0 : Int32)), .inr (.inr (a2))] : List TV).map (vl g)) (as := [.inl (a1)]) ok lev (by omega) fcX10.1 (by decide) rfl (of_if e1).1 (k2 g) (CaX.of en (by omega)) kn_X10_witness wm_1309 wm_1310 wm_1311 (rs_ok (Nat.le_of_ble_eq_true rfl)) rfl rfl dL_witness_4 ?_
  refine tj_i2l ok dL_witness_7 ?_
  refine tj_lastore ok dL_witness_8 e3 ?_
  refine tj_goto (tgt := 18) ok dL_witness_9 (by decide) ?_
  refine tj_sub (lv' := []) [] rfl ?_
  exact J.2 X g K ok nmx lev hK en
def f_L_witness (a0 : Nat) (a1 : Int32) (a2 : Nat) (h : AH) : Option (Int32 × AH) := orE (b_L_witness_0 a0 a1 a2 h) ((ok_v h a0 10).bind fun x1 => (x_X10_witness a0 a1 h).bind fun q9 => if q9.1 = 12 then some ((1 : Int32), q9.2) else some ((2 : Int32), q9.2))
set_option maxHeartbeats 4000000 in
set_option maxRecDepth 100000 in
theorem c_L_witness {a0 : Nat} {a1 : Int32} {a2 : Nat} {h hE : AH} {v : Int32} (hf : f_L_witness a0 a1 a2 h = some (v, hE)) : ∀ g : GT, CW g 147 yL_witness cL_witness 4 (some .int) [(0, 9, 12, 13), (0, 9, 15, 23)] h [.inr (.inr (a0)), .inl (a1), .inr (.inr (a2))] hE (some (.inl (v))) := by
  rcases orE_of hf with hf | hf
  · exact CW.ofJ (by decide) (by show _ ≤ 4; exact Nat.le_of_ble_eq_true rfl) (q_L_witness_0 hf)
  · obtain ⟨x1, e1, hf⟩ := bnd hf
    obtain ⟨⟨E1, h9⟩, e9, hf⟩ := bnd hf
    dsimp only at hf
    obtain ⟨hE, kx⟩ := cx_X10_witness e9
    have mE := (kx default_g).1
    intro g
    by_cases hc : E1 = 12
    · rw [if_pos hc] at hf
      subst hc
      obtain ⟨hv, hh⟩ := Prod.mk.inj (Option.some.inj hf)
      subst hv
      subst hh
      refine CW.of (by decide) (by show _ ≤ 4; exact Nat.le_of_ble_eq_true rfl) (by omega) (fun X ok nmx tb lev en => ?_)
      refine tj_aload_n ok 2 dL_witness_0 rfl rfl ?_
      refine tj_iconst (v := 0) ok dL_witness_1 (by decide) ?_
      refine tj_aload_n ok 0 dL_witness_2 rfl rfl ?_
      refine tj_iload_n ok 1 dL_witness_3 rfl rfl ?_
      refine tj_catV (rest := ([.inl ((0 : Int32)), .inr (.inr (a2))] : List TV).map (vl g)) (as := [.inl (a1)]) ok tb lev (by omega) fcX10.1 (by decide) rfl (of_if e1).1 (kx g) (CaX.of en (by omega)) kn_X10_witness wm_1309 wm_1310 wm_1311 (rs_ok (Nat.le_of_ble_eq_true rfl)) rfl dL_witness_4 (Or.inl ⟨_, _, rfl, by decide, by decide, rfl, wm_1246, hx_n (lv' := [(0, .inr (.inr (a0))), (1, .inl (a1)), (2, .inr (.inr (a2)))]) ok dL_witness_12 rfl (by decide) rfl ?_⟩)
      refine tj_iconst (v := 1) ok dL_witness_13 (by decide) ?_
      exact tj_ireturn ok en dL_witness_14
    · rw [if_neg hc] at hf
      have hc13 : E1 = 13 := hE.resolve_left hc
      subst hc13
      obtain ⟨hv, hh⟩ := Prod.mk.inj (Option.some.inj hf)
      subst hv
      subst hh
      refine CW.of (by decide) (by show _ ≤ 4; exact Nat.le_of_ble_eq_true rfl) (by omega) (fun X ok nmx tb lev en => ?_)
      refine tj_aload_n ok 2 dL_witness_0 rfl rfl ?_
      refine tj_iconst (v := 0) ok dL_witness_1 (by decide) ?_
      refine tj_aload_n ok 0 dL_witness_2 rfl rfl ?_
      refine tj_iload_n ok 1 dL_witness_3 rfl rfl ?_
      refine tj_catV (rest := ([.inl ((0 : Int32)), .inr (.inr (a2))] : List TV).map (vl g)) (as := [.inl (a1)]) ok tb lev (by omega) fcX10.1 (by decide) rfl (of_if e1).1 (kx g) (CaX.of en (by omega)) kn_X10_witness wm_1309 wm_1310 wm_1311 (rs_ok (Nat.le_of_ble_eq_true rfl)) rfl dL_witness_4 (Or.inr ⟨_, _, _, rfl, by decide, by decide, wm_1246, by decide, by decide, rfl, wm_1247, hx_n (lv' := [(0, .inr (.inr (a0))), (1, .inl (a1)), (2, .inr (.inr (a2)))]) ok dL_witness_15 rfl (by decide) rfl ?_⟩)
      refine tj_iconst (v := 2) ok dL_witness_16 (by decide) ?_
      exact tj_ireturn ok en dL_witness_17
