theorem dX10_end_0 : decode cX10_end 0 = .ok (.iload_n 1, 1) := by decide +kernel
theorem dX10_end_1 : decode cX10_end 1 = .ok (.ifCond .lt 11, 3) := by decide +kernel
theorem dX10_end_4 : decode cX10_end 4 = .ok (.iload_n 1, 1) := by decide +kernel
theorem dX10_end_5 : decode cX10_end 5 = .ok (.aload_n 0, 1) := by decide +kernel
theorem dX10_end_6 : decode cX10_end 6 = .ok (.getfield 50, 3) := by decide +kernel
theorem dX10_end_9 : decode cX10_end 9 = .ok (.if_icmp .le 5, 3) := by decide +kernel
theorem dX10_end_12 : decode cX10_end 12 = .ok (.iconst 0, 1) := by decide +kernel
theorem dX10_end_13 : decode cX10_end 13 = .ok (.ireturn, 1) := by decide +kernel
theorem dX10_end_14 : decode cX10_end 14 = .ok (.aload_n 0, 1) := by decide +kernel
theorem dX10_end_15 : decode cX10_end 15 = .ok (.iload_n 1, 1) := by decide +kernel
theorem dX10_end_16 : decode cX10_end 16 = .ok (.putfield 50, 3) := by decide +kernel
theorem dX10_end_19 : decode cX10_end 19 = .ok (.iconst 1, 1) := by decide +kernel
theorem dX10_end_20 : decode cX10_end 20 = .ok (.ireturn, 1) := by decide +kernel
theorem dX10_fault_0 : decode cX10_fault 0 = .ok (.iload_n 1, 1) := by decide +kernel
theorem dX10_fault_1 : decode cX10_fault 1 = .ok (.lookupswitch 37 #[(0, 27), (1, 32)], 27) := by decide +kernel
theorem dX10_fault_28 : decode cX10_fault 28 = .ok (.aload_n 0, 1) := by decide +kernel
theorem dX10_fault_29 : decode cX10_fault 29 = .ok (.getfield 54, 3) := by decide +kernel
theorem dX10_fault_32 : decode cX10_fault 32 = .ok (.ireturn, 1) := by decide +kernel
theorem dX10_fault_33 : decode cX10_fault 33 = .ok (.aload_n 0, 1) := by decide +kernel
theorem dX10_fault_34 : decode cX10_fault 34 = .ok (.getfield 57, 3) := by decide +kernel
theorem dX10_fault_37 : decode cX10_fault 37 = .ok (.ireturn, 1) := by decide +kernel
theorem dX10_fault_38 : decode cX10_fault 38 = .ok (.iconst (-1), 1) := by decide +kernel
theorem dX10_fault_39 : decode cX10_fault 39 = .ok (.ireturn, 1) := by decide +kernel
theorem dX10_feedNumber_0 : decode cX10_feedNumber 0 = .ok (.bipush 24, 2) := by decide +kernel
theorem dX10_feedNumber_2 : decode cX10_feedNumber 2 = .ok (.istore_n 2, 1) := by decide +kernel
theorem dX10_feedNumber_3 : decode cX10_feedNumber 3 = .ok (.iload_n 2, 1) := by decide +kernel
theorem dX10_feedNumber_4 : decode cX10_feedNumber 4 = .ok (.ifCond .lt 45, 3) := by decide +kernel
theorem dX10_feedNumber_7 : decode cX10_feedNumber 7 = .ok (.aload_n 0, 1) := by decide +kernel
theorem dX10_feedNumber_8 : decode cX10_feedNumber 8 = .ok (.getfield 50, 3) := by decide +kernel
theorem dX10_feedNumber_11 : decode cX10_feedNumber 11 = .ok (.sipush 1000, 3) := by decide +kernel
theorem dX10_feedNumber_14 : decode cX10_feedNumber 14 = .ok (.if_icmp .ge 29, 3) := by decide +kernel
theorem dX10_feedNumber_17 : decode cX10_feedNumber 17 = .ok (.aload_n 0, 1) := by decide +kernel
theorem dX10_feedNumber_18 : decode cX10_feedNumber 18 = .ok (.getfield 9, 3) := by decide +kernel
theorem dX10_feedNumber_21 : decode cX10_feedNumber 21 = .ok (.aload_n 0, 1) := by decide +kernel
theorem dX10_feedNumber_22 : decode cX10_feedNumber 22 = .ok (.getfield 50, 3) := by decide +kernel
theorem dX10_feedNumber_25 : decode cX10_feedNumber 25 = .ok (.iload_n 1, 1) := by decide +kernel
theorem dX10_feedNumber_26 : decode cX10_feedNumber 26 = .ok (.iload_n 2, 1) := by decide +kernel
theorem dX10_feedNumber_27 : decode cX10_feedNumber 27 = .ok (.iushr, 1) := by decide +kernel
theorem dX10_feedNumber_28 : decode cX10_feedNumber 28 = .ok (.sipush 255, 3) := by decide +kernel
theorem dX10_feedNumber_31 : decode cX10_feedNumber 31 = .ok (.iand, 1) := by decide +kernel
theorem dX10_feedNumber_32 : decode cX10_feedNumber 32 = .ok (.iastore, 1) := by decide +kernel
theorem dX10_feedNumber_33 : decode cX10_feedNumber 33 = .ok (.aload_n 0, 1) := by decide +kernel
theorem dX10_feedNumber_34 : decode cX10_feedNumber 34 = .ok (.dup, 1) := by decide +kernel
theorem dX10_feedNumber_35 : decode cX10_feedNumber 35 = .ok (.getfield 50, 3) := by decide +kernel
theorem dX10_feedNumber_38 : decode cX10_feedNumber 38 = .ok (.iconst 1, 1) := by decide +kernel
theorem dX10_feedNumber_39 : decode cX10_feedNumber 39 = .ok (.iadd, 1) := by decide +kernel
theorem dX10_feedNumber_40 : decode cX10_feedNumber 40 = .ok (.putfield 50, 3) := by decide +kernel
theorem dX10_feedNumber_43 : decode cX10_feedNumber 43 = .ok (.iinc 2 (-8), 3) := by decide +kernel
theorem dX10_feedNumber_46 : decode cX10_feedNumber 46 = .ok (.goto (-43), 3) := by decide +kernel
theorem dX10_feedNumber_49 : decode cX10_feedNumber 49 = .ok (.return_, 1) := by decide +kernel
theorem dX10_feed_0 : decode cX10_feed 0 = .ok (.aload_n 0, 1) := by decide +kernel
theorem dX10_feed_1 : decode cX10_feed 1 = .ok (.getfield 50, 3) := by decide +kernel
theorem dX10_feed_4 : decode cX10_feed 4 = .ok (.sipush 980, 3) := by decide +kernel
theorem dX10_feed_7 : decode cX10_feed 7 = .ok (.if_icmp .le 5, 3) := by decide +kernel
theorem dX10_feed_10 : decode cX10_feed 10 = .ok (.iconst (-1), 1) := by decide +kernel
theorem dX10_feed_11 : decode cX10_feed 11 = .ok (.ireturn, 1) := by decide +kernel
theorem dX10_feed_12 : decode cX10_feed 12 = .ok (.aload_n 0, 1) := by decide +kernel
theorem dX10_feed_13 : decode cX10_feed 13 = .ok (.iload_n 1, 1) := by decide +kernel
theorem dX10_feed_14 : decode cX10_feed 14 = .ok (.invokevirtual 66, 3) := by decide +kernel
theorem dX10_feed_17 : decode cX10_feed 17 = .ok (.aload_n 0, 1) := by decide +kernel
theorem dX10_feed_18 : decode cX10_feed 18 = .ok (.iload_n 2, 1) := by decide +kernel
theorem dX10_feed_19 : decode cX10_feed 19 = .ok (.invokevirtual 66, 3) := by decide +kernel
theorem dX10_feed_22 : decode cX10_feed 22 = .ok (.aload_n 0, 1) := by decide +kernel
theorem dX10_feed_23 : decode cX10_feed 23 = .ok (.iload_n 3, 1) := by decide +kernel
theorem dX10_feed_24 : decode cX10_feed 24 = .ok (.invokevirtual 66, 3) := by decide +kernel
theorem dX10_feed_27 : decode cX10_feed 27 = .ok (.aload_n 0, 1) := by decide +kernel
theorem dX10_feed_28 : decode cX10_feed 28 = .ok (.iload 4, 2) := by decide +kernel
theorem dX10_feed_30 : decode cX10_feed 30 = .ok (.invokevirtual 66, 3) := by decide +kernel
theorem dX10_feed_33 : decode cX10_feed 33 = .ok (.aload_n 0, 1) := by decide +kernel
theorem dX10_feed_34 : decode cX10_feed 34 = .ok (.iload 5, 2) := by decide +kernel
theorem dX10_feed_36 : decode cX10_feed 36 = .ok (.invokevirtual 66, 3) := by decide +kernel
theorem dX10_feed_39 : decode cX10_feed 39 = .ok (.aload_n 0, 1) := by decide +kernel
theorem dX10_feed_40 : decode cX10_feed 40 = .ok (.getfield 50, 3) := by decide +kernel
theorem dX10_feed_43 : decode cX10_feed 43 = .ok (.ireturn, 1) := by decide +kernel
theorem dX10_init_0 : decode cX10_init 0 = .ok (.aload_n 0, 1) := by decide +kernel
theorem dX10_init_1 : decode cX10_init 1 = .ok (.invokespecial 1, 3) := by decide +kernel
theorem dX10_init_4 : decode cX10_init 4 = .ok (.aload_n 0, 1) := by decide +kernel
theorem dX10_init_5 : decode cX10_init 5 = .ok (.sipush 1000, 3) := by decide +kernel
theorem dX10_init_8 : decode cX10_init 8 = .ok (.newarray .int, 2) := by decide +kernel
theorem dX10_init_10 : decode cX10_init 10 = .ok (.putfield 9, 3) := by decide +kernel
theorem dX10_init_13 : decode cX10_init 13 = .ok (.aload_n 0, 1) := by decide +kernel
theorem dX10_init_14 : decode cX10_init 14 = .ok (.bipush 8, 2) := by decide +kernel
theorem dX10_init_16 : decode cX10_init 16 = .ok (.anewarray 13, 3) := by decide +kernel
theorem dX10_init_19 : decode cX10_init 19 = .ok (.putfield 15, 3) := by decide +kernel
theorem dX10_init_22 : decode cX10_init 22 = .ok (.aload_n 0, 1) := by decide +kernel
theorem dX10_init_23 : decode cX10_init 23 = .ok (.iconst 5, 1) := by decide +kernel
theorem dX10_init_24 : decode cX10_init 24 = .ok (.newarray .int, 2) := by decide +kernel
theorem dX10_init_26 : decode cX10_init 26 = .ok (.putfield 19, 3) := by decide +kernel
theorem dX10_init_29 : decode cX10_init 29 = .ok (.aload_n 0, 1) := by decide +kernel
theorem dX10_init_30 : decode cX10_init 30 = .ok (.new 22, 3) := by decide +kernel
theorem dX10_init_33 : decode cX10_init 33 = .ok (.dup, 1) := by decide +kernel
theorem dX10_init_34 : decode cX10_init 34 = .ok (.invokespecial 24, 3) := by decide +kernel
theorem dX10_init_37 : decode cX10_init 37 = .ok (.putfield 25, 3) := by decide +kernel
theorem dX10_init_40 : decode cX10_init 40 = .ok (.aload_n 0, 1) := by decide +kernel
theorem dX10_init_41 : decode cX10_init 41 = .ok (.new 29, 3) := by decide +kernel
theorem dX10_init_44 : decode cX10_init 44 = .ok (.dup, 1) := by decide +kernel
theorem dX10_init_45 : decode cX10_init 45 = .ok (.invokespecial 31, 3) := by decide +kernel
theorem dX10_init_48 : decode cX10_init 48 = .ok (.putfield 32, 3) := by decide +kernel
theorem dX10_init_51 : decode cX10_init 51 = .ok (.aload_n 0, 1) := by decide +kernel
theorem dX10_init_52 : decode cX10_init 52 = .ok (.new 36, 3) := by decide +kernel
theorem dX10_init_55 : decode cX10_init 55 = .ok (.dup, 1) := by decide +kernel
theorem dX10_init_56 : decode cX10_init 56 = .ok (.invokespecial 38, 3) := by decide +kernel
theorem dX10_init_59 : decode cX10_init 59 = .ok (.putfield 39, 3) := by decide +kernel
theorem dX10_init_62 : decode cX10_init 62 = .ok (.aload_n 0, 1) := by decide +kernel
theorem dX10_init_63 : decode cX10_init 63 = .ok (.new 43, 3) := by decide +kernel
theorem dX10_init_66 : decode cX10_init 66 = .ok (.dup, 1) := by decide +kernel
theorem dX10_init_67 : decode cX10_init 67 = .ok (.invokespecial 45, 3) := by decide +kernel
theorem dX10_init_70 : decode cX10_init 70 = .ok (.putfield 46, 3) := by decide +kernel
theorem dX10_init_73 : decode cX10_init 73 = .ok (.aload_n 0, 1) := by decide +kernel
theorem dX10_init_74 : decode cX10_init 74 = .ok (.iconst 0, 1) := by decide +kernel
theorem dX10_init_75 : decode cX10_init 75 = .ok (.putfield 50, 3) := by decide +kernel
theorem dX10_init_78 : decode cX10_init 78 = .ok (.aload_n 0, 1) := by decide +kernel
theorem dX10_init_79 : decode cX10_init 79 = .ok (.iconst 0, 1) := by decide +kernel
theorem dX10_init_80 : decode cX10_init 80 = .ok (.putfield 54, 3) := by decide +kernel
theorem dX10_init_83 : decode cX10_init 83 = .ok (.aload_n 0, 1) := by decide +kernel
theorem dX10_init_84 : decode cX10_init 84 = .ok (.iconst (-1), 1) := by decide +kernel
theorem dX10_init_85 : decode cX10_init 85 = .ok (.putfield 57, 3) := by decide +kernel
theorem dX10_init_88 : decode cX10_init 88 = .ok (.aload_n 0, 1) := by decide +kernel
theorem dX10_init_89 : decode cX10_init 89 = .ok (.getfield 19, 3) := by decide +kernel
theorem dX10_init_92 : decode cX10_init 92 = .ok (.iconst (-1), 1) := by decide +kernel
theorem dX10_init_93 : decode cX10_init 93 = .ok (.invokestatic 60, 3) := by decide +kernel
theorem dX10_init_96 : decode cX10_init 96 = .ok (.return_, 1) := by decide +kernel
theorem dX10_isOrder_0 : decode cX10_isOrder 0 = .ok (.iload_n 0, 1) := by decide +kernel
theorem dX10_isOrder_1 : decode cX10_isOrder 1 = .ok (.ifCond .lt 12, 3) := by decide +kernel
theorem dX10_isOrder_4 : decode cX10_isOrder 4 = .ok (.iload_n 0, 1) := by decide +kernel
theorem dX10_isOrder_5 : decode cX10_isOrder 5 = .ok (.iconst 2, 1) := by decide +kernel
theorem dX10_isOrder_6 : decode cX10_isOrder 6 = .ok (.if_icmp .gt 7, 3) := by decide +kernel
theorem dX10_isOrder_9 : decode cX10_isOrder 9 = .ok (.iconst 1, 1) := by decide +kernel
theorem dX10_isOrder_10 : decode cX10_isOrder 10 = .ok (.goto 4, 3) := by decide +kernel
theorem dX10_isOrder_13 : decode cX10_isOrder 13 = .ok (.iconst 0, 1) := by decide +kernel
theorem dX10_isOrder_14 : decode cX10_isOrder 14 = .ok (.ireturn, 1) := by decide +kernel
theorem dX10_out_0 : decode cX10_out 0 = .ok (.aload_n 0, 1) := by decide +kernel
theorem dX10_out_1 : decode cX10_out 1 = .ok (.getfield 32, 3) := by decide +kernel
theorem dX10_out_4 : decode cX10_out 4 = .ok (.iload_n 1, 1) := by decide +kernel
theorem dX10_out_5 : decode cX10_out 5 = .ok (.invokevirtual 139, 3) := by decide +kernel
theorem dX10_out_8 : decode cX10_out 8 = .ok (.ireturn, 1) := by decide +kernel
theorem dX10_outcomesOf_0 : decode cX10_outcomesOf 0 = .ok (.aload_n 1, 1) := by decide +kernel
theorem dX10_outcomesOf_1 : decode cX10_outcomesOf 1 = .ok (.iload_n 2, 1) := by decide +kernel
theorem dX10_outcomesOf_2 : decode cX10_outcomesOf 2 = .ok (.invokevirtual 226, 3) := by decide +kernel
theorem dX10_outcomesOf_5 : decode cX10_outcomesOf 5 = .ok (.astore_n 3, 1) := by decide +kernel
theorem dX10_outcomesOf_6 : decode cX10_outcomesOf 6 = .ok (.aload_n 3, 1) := by decide +kernel
theorem dX10_outcomesOf_7 : decode cX10_outcomesOf 7 = .ok (.ifnull 5, 3) := by decide +kernel
theorem dX10_outcomesOf_10 : decode cX10_outcomesOf 10 = .ok (.aload_n 3, 1) := by decide +kernel
theorem dX10_outcomesOf_11 : decode cX10_outcomesOf 11 = .ok (.areturn, 1) := by decide +kernel
theorem dX10_outcomesOf_12 : decode cX10_outcomesOf 12 = .ok (.aload_n 0, 1) := by decide +kernel
theorem dX10_outcomesOf_13 : decode cX10_outcomesOf 13 = .ok (.getfield 39, 3) := by decide +kernel
theorem dX10_outcomesOf_16 : decode cX10_outcomesOf 16 = .ok (.aload_n 1, 1) := by decide +kernel
theorem dX10_outcomesOf_17 : decode cX10_outcomesOf 17 = .ok (.iload_n 2, 1) := by decide +kernel
theorem dX10_outcomesOf_18 : decode cX10_outcomesOf 18 = .ok (.invokevirtual 230, 3) := by decide +kernel
theorem dX10_outcomesOf_21 : decode cX10_outcomesOf 21 = .ok (.astore 4, 2) := by decide +kernel
theorem dX10_outcomesOf_23 : decode cX10_outcomesOf 23 = .ok (.aload_n 1, 1) := by decide +kernel
theorem dX10_outcomesOf_24 : decode cX10_outcomesOf 24 = .ok (.iload_n 2, 1) := by decide +kernel
theorem dX10_outcomesOf_25 : decode cX10_outcomesOf 25 = .ok (.aload 4, 2) := by decide +kernel
theorem dX10_outcomesOf_27 : decode cX10_outcomesOf 27 = .ok (.invokevirtual 233, 3) := by decide +kernel
theorem dX10_outcomesOf_30 : decode cX10_outcomesOf 30 = .ok (.aload 4, 2) := by decide +kernel
theorem dX10_outcomesOf_32 : decode cX10_outcomesOf 32 = .ok (.areturn, 1) := by decide +kernel
theorem dX10_racesOf_0 : decode cX10_racesOf 0 = .ok (.aload_n 1, 1) := by decide +kernel
theorem dX10_racesOf_1 : decode cX10_racesOf 1 = .ok (.getfield 237, 3) := by decide +kernel
theorem dX10_racesOf_4 : decode cX10_racesOf 4 = .ok (.ifCond .ne 20, 3) := by decide +kernel
theorem dX10_racesOf_7 : decode cX10_racesOf 7 = .ok (.aload_n 1, 1) := by decide +kernel
theorem dX10_racesOf_8 : decode cX10_racesOf 8 = .ok (.aload_n 0, 1) := by decide +kernel
theorem dX10_racesOf_9 : decode cX10_racesOf 9 = .ok (.getfield 39, 3) := by decide +kernel
theorem dX10_racesOf_12 : decode cX10_racesOf 12 = .ok (.aload_n 1, 1) := by decide +kernel
theorem dX10_racesOf_13 : decode cX10_racesOf 13 = .ok (.invokevirtual 241, 3) := by decide +kernel
theorem dX10_racesOf_16 : decode cX10_racesOf 16 = .ok (.putfield 244, 3) := by decide +kernel
theorem dX10_racesOf_19 : decode cX10_racesOf 19 = .ok (.aload_n 1, 1) := by decide +kernel
theorem dX10_racesOf_20 : decode cX10_racesOf 20 = .ok (.iconst 1, 1) := by decide +kernel
theorem dX10_racesOf_21 : decode cX10_racesOf 21 = .ok (.putfield 237, 3) := by decide +kernel
theorem dX10_racesOf_24 : decode cX10_racesOf 24 = .ok (.aload_n 1, 1) := by decide +kernel
theorem dX10_racesOf_25 : decode cX10_racesOf 25 = .ok (.getfield 244, 3) := by decide +kernel
theorem dX10_racesOf_28 : decode cX10_racesOf 28 = .ok (.lreturn, 1) := by decide +kernel
theorem dX10_step_0 : decode cX10_step 0 = .ok (.aload_n 0, 1) := by decide +kernel
theorem dX10_step_1 : decode cX10_step 1 = .ok (.getfield 39, 3) := by decide +kernel
theorem dX10_step_4 : decode cX10_step 4 = .ok (.iload_n 1, 1) := by decide +kernel
theorem dX10_step_5 : decode cX10_step 5 = .ok (.invokevirtual 175, 3) := by decide +kernel
theorem dX10_step_8 : decode cX10_step 8 = .ok (.ireturn, 1) := by decide +kernel
theorem dX10_take_0 : decode cX10_take 0 = .ok (.aload_n 0, 1) := by decide +kernel
theorem dX10_take_1 : decode cX10_take 1 = .ok (.aload_n 0, 1) := by decide +kernel
theorem dX10_take_2 : decode cX10_take 2 = .ok (.getfield 32, 3) := by decide +kernel
theorem dX10_take_5 : decode cX10_take 5 = .ok (.getfield 142, 3) := by decide +kernel
theorem dX10_take_8 : decode cX10_take 8 = .ok (.sipush 1000, 3) := by decide +kernel
theorem dX10_take_11 : decode cX10_take 11 = .ok (.invokestatic 145, 3) := by decide +kernel
theorem dX10_take_14 : decode cX10_take 14 = .ok (.putfield 50, 3) := by decide +kernel
theorem dX10_take_17 : decode cX10_take 17 = .ok (.iconst 0, 1) := by decide +kernel
theorem dX10_take_18 : decode cX10_take 18 = .ok (.istore_n 1, 1) := by decide +kernel
theorem dX10_take_19 : decode cX10_take 19 = .ok (.iload_n 1, 1) := by decide +kernel
theorem dX10_take_20 : decode cX10_take 20 = .ok (.aload_n 0, 1) := by decide +kernel
theorem dX10_take_21 : decode cX10_take 21 = .ok (.getfield 50, 3) := by decide +kernel
theorem dX10_take_24 : decode cX10_take 24 = .ok (.if_icmp .ge 23, 3) := by decide +kernel
theorem dX10_take_27 : decode cX10_take 27 = .ok (.aload_n 0, 1) := by decide +kernel
theorem dX10_take_28 : decode cX10_take 28 = .ok (.getfield 9, 3) := by decide +kernel
theorem dX10_take_31 : decode cX10_take 31 = .ok (.iload_n 1, 1) := by decide +kernel
theorem dX10_take_32 : decode cX10_take 32 = .ok (.aload_n 0, 1) := by decide +kernel
theorem dX10_take_33 : decode cX10_take 33 = .ok (.getfield 32, 3) := by decide +kernel
theorem dX10_take_36 : decode cX10_take 36 = .ok (.iload_n 1, 1) := by decide +kernel
theorem dX10_take_37 : decode cX10_take 37 = .ok (.invokevirtual 139, 3) := by decide +kernel
theorem dX10_take_40 : decode cX10_take 40 = .ok (.iastore, 1) := by decide +kernel
theorem dX10_take_41 : decode cX10_take 41 = .ok (.iinc 1 1, 3) := by decide +kernel
theorem dX10_take_44 : decode cX10_take 44 = .ok (.goto (-25), 3) := by decide +kernel
theorem dX10_take_47 : decode cX10_take 47 = .ok (.aload_n 0, 1) := by decide +kernel
theorem dX10_take_48 : decode cX10_take 48 = .ok (.getfield 50, 3) := by decide +kernel
theorem dX10_take_51 : decode cX10_take 51 = .ok (.ireturn, 1) := by decide +kernel
theorem dX10_wish_0 : decode cX10_wish 0 = .ok (.iload_n 1, 1) := by decide +kernel
theorem dX10_wish_1 : decode cX10_wish 1 = .ok (.ifCond .lt 19, 3) := by decide +kernel
theorem dX10_wish_4 : decode cX10_wish 4 = .ok (.iload_n 1, 1) := by decide +kernel
theorem dX10_wish_5 : decode cX10_wish 5 = .ok (.iconst 5, 1) := by decide +kernel
theorem dX10_wish_6 : decode cX10_wish 6 = .ok (.if_icmp .ge 14, 3) := by decide +kernel
theorem dX10_wish_9 : decode cX10_wish 9 = .ok (.iload_n 2, 1) := by decide +kernel
theorem dX10_wish_10 : decode cX10_wish 10 = .ok (.iconst (-1), 1) := by decide +kernel
theorem dX10_wish_11 : decode cX10_wish 11 = .ok (.if_icmp .lt 9, 3) := by decide +kernel
theorem dX10_wish_14 : decode cX10_wish 14 = .ok (.iload_n 2, 1) := by decide +kernel
theorem dX10_wish_15 : decode cX10_wish 15 = .ok (.bipush 9, 2) := by decide +kernel
theorem dX10_wish_17 : decode cX10_wish 17 = .ok (.if_icmp .le 5, 3) := by decide +kernel
theorem dX10_wish_20 : decode cX10_wish 20 = .ok (.iconst 0, 1) := by decide +kernel
theorem dX10_wish_21 : decode cX10_wish 21 = .ok (.ireturn, 1) := by decide +kernel
theorem dX10_wish_22 : decode cX10_wish 22 = .ok (.aload_n 0, 1) := by decide +kernel
theorem dX10_wish_23 : decode cX10_wish 23 = .ok (.getfield 19, 3) := by decide +kernel
theorem dX10_wish_26 : decode cX10_wish 26 = .ok (.iload_n 1, 1) := by decide +kernel
theorem dX10_wish_27 : decode cX10_wish 27 = .ok (.iload_n 2, 1) := by decide +kernel
theorem dX10_wish_28 : decode cX10_wish 28 = .ok (.iastore, 1) := by decide +kernel
theorem dX10_wish_29 : decode cX10_wish 29 = .ok (.iconst 1, 1) := by decide +kernel
theorem dX10_wish_30 : decode cX10_wish 30 = .ok (.ireturn, 1) := by decide +kernel
theorem kn_X10_end : Kn yX10_end cX10_end 2 (some .boolean) 1 := ⟨wm_89, wm_90, by decide +kernel, by decide⟩
theorem kn_X10_fault : Kn yX10_fault cX10_fault 2 (some .int) 1 := ⟨wm_92, wm_90, by decide +kernel, by decide⟩
theorem kn_X10_feedNumber : Kn yX10_feedNumber cX10_feedNumber 3 none 1 := ⟨wm_95, wm_90, by decide +kernel, by decide⟩
theorem kn_X10_feed : Kn yX10_feed cX10_feed 6 (some .int) 5 := ⟨wm_97, wm_90, by decide +kernel, by decide⟩
theorem kn_X10_init : Kn yX10_init cX10_init 1 none 0 := ⟨wm_196, wm_90, by decide +kernel, by decide⟩
theorem kn_X10_isOrder : Kn yX10_isOrder cX10_isOrder 1 (some .boolean) 1 := ⟨wm_219, wm_90, by decide +kernel, by decide⟩
theorem kn_X10_out : Kn yX10_out cX10_out 2 (some .int) 1 := ⟨wm_221, wm_90, by decide +kernel, by decide⟩
theorem kn_X10_outcomesOf : Kn yX10_outcomesOf cX10_outcomesOf 5 (some (.array .int)) 2 := ⟨wm_475, wm_90, by decide +kernel, by decide⟩
theorem kn_X10_racesOf : Kn yX10_racesOf cX10_racesOf 2 (some .long) 1 := ⟨wm_486, wm_90, by decide +kernel, by decide⟩
theorem kn_X10_step : Kn yX10_step cX10_step 2 (some .int) 1 := ⟨wm_493, wm_90, by decide +kernel, by decide⟩
theorem kn_X10_take : Kn yX10_take cX10_take 2 (some .int) 0 := ⟨wm_497, wm_90, by decide +kernel, by decide⟩
theorem kn_X10_wish : Kn yX10_wish cX10_wish 3 (some .boolean) 2 := ⟨wm_500, wm_90, by decide +kernel, by decide⟩
/-! ===== LitmusHouse.end(I)Z ===== -/
def b_X10_end_12  (h : AH) : Option (Int32 × AH) :=
  ok_z (0 : Int32) h
set_option maxHeartbeats 4000000 in
set_option maxRecDepth 100000 in
theorem q_X10_end_12 {h hE : AH} {v : Int32} (hf : b_X10_end_12  h = some (v, hE)) : JD cX10_end 2 RX10 "end" (some .boolean) (2) 12 [] [] h hE (some (.inl (v))) := by
  unfold b_X10_end_12 at hf
  have mE : hp_n h ≤ hp_n hE ∧ hp_s h ≤ hp_s hE := by obtain ⟨-, q⟩ := of_if hf; cases q; exact ⟨Nat.le_refl _, Nat.le_refl _⟩
  refine ⟨by omega, fun X g K ok nmx lev hK en => ?_⟩
  refine tj_iconst (v := 0) ok dX10_end_12 (by decide) ?_
  exact tj_zreturn ok hf en dX10_end_13
def b_X10_end_14 (a0 : Nat) (a1 : Int32) (h : AH) : Option (Int32 × AH) :=
  (p_i h a0 10 7 a1).bind fun h1 => ok_z (1 : Int32) h1
set_option maxHeartbeats 4000000 in
set_option maxRecDepth 100000 in
theorem q_X10_end_14 {a0 : Nat} {a1 : Int32} {h hE : AH} {v : Int32} (hf : b_X10_end_14 a0 a1 h = some (v, hE)) : JD cX10_end 2 RX10 "end" (some .boolean) (2) 14 [(0, .inr (.inr (a0))), (1, .inl (a1))] [] h hE (some (.inl (v))) := by
  unfold b_X10_end_14 at hf
  obtain ⟨h1, e1, hf⟩ := bnd hf
  have m1 := nn_pi e1
  have mE : hp_n h1 ≤ hp_n hE ∧ hp_s h1 ≤ hp_s hE := by obtain ⟨-, q⟩ := of_if hf; cases q; exact ⟨Nat.le_refl _, Nat.le_refl _⟩
  refine ⟨by omega, fun X g K ok nmx lev hK en => ?_⟩
  refine tj_aload_n ok 0 dX10_end_14 rfl rfl ?_
  refine tj_iload_n ok 1 dX10_end_15 rfl rfl ?_
  refine tj_putI (k := 7) ok fcX10 (by decide) wm_91 rfl (Or.inl rfl) rfl dX10_end_16 e1 ?_
  refine tj_iconst (v := 1) ok dX10_end_19 (by decide) ?_
  exact tj_zreturn ok hf en dX10_end_20
def b_X10_end_4 (a0 : Nat) (a1 : Int32) (h : AH) : Option (Int32 × AH) :=
  (g_i h a0 10 7).bind fun x1 => if a1 ≤ x1 then b_X10_end_14 a0 a1 h else b_X10_end_12 h
set_option maxHeartbeats 4000000 in
set_option maxRecDepth 100000 in
theorem q_X10_end_4 {a0 : Nat} {a1 : Int32} {h hE : AH} {v : Int32} (hf : b_X10_end_4 a0 a1 h = some (v, hE)) : JD cX10_end 2 RX10 "end" (some .boolean) (2) 4 [(0, .inr (.inr (a0))), (1, .inl (a1))] [] h hE (some (.inl (v))) := by
  unfold b_X10_end_4 at hf
  obtain ⟨x1, e1, hf⟩ := bnd hf
  have mE : hp_n h ≤ hp_n hE ∧ hp_s h ≤ hp_s hE := by
    by_cases hc : a1 ≤ x1
    · rw [if_pos hc] at hf; exact (q_X10_end_14 hf).1
    · rw [if_neg hc] at hf; exact (q_X10_end_12 hf).1
  refine ⟨by omega, fun X g K ok nmx lev hK en => ?_⟩
  refine tj_iload_n ok 1 dX10_end_4 rfl rfl ?_
  refine tj_aload_n ok 0 dX10_end_5 rfl rfl ?_
  refine tj_getI (k := 7) ok fcX10 (by decide) wm_91 rfl (Or.inl rfl) dX10_end_6 e1 ?_
  refine tj_icmp_le (tgt := 14) ok dX10_end_9 (by decide) (fun hc => ?_) (fun hc => ?_)
  · rw [if_pos hc] at hf
    exact (q_X10_end_14 hf).2 X g K ok nmx lev hK en
  · rw [if_neg hc] at hf
    refine tj_sub (lv' := []) [] rfl ?_
    exact (q_X10_end_12 hf).2 X g K ok nmx lev hK en
def b_X10_end_0 (a0 : Nat) (a1 : Int32) (h : AH) : Option (Int32 × AH) :=
  if a1 < 0 then b_X10_end_12 h else b_X10_end_4 a0 a1 h
set_option maxHeartbeats 4000000 in
set_option maxRecDepth 100000 in
theorem q_X10_end_0 {a0 : Nat} {a1 : Int32} {h hE : AH} {v : Int32} (hf : b_X10_end_0 a0 a1 h = some (v, hE)) : JD cX10_end 2 RX10 "end" (some .boolean) (2) 0 [(0, .inr (.inr (a0))), (1, .inl (a1))] [] h hE (some (.inl (v))) := by
  unfold b_X10_end_0 at hf
  have mE : hp_n h ≤ hp_n hE ∧ hp_s h ≤ hp_s hE := by
    by_cases hc : a1 < 0
    · rw [if_pos hc] at hf; exact (q_X10_end_12 hf).1
    · rw [if_neg hc] at hf; exact (q_X10_end_4 hf).1
  refine ⟨by omega, fun X g K ok nmx lev hK en => ?_⟩
  refine tj_iload_n ok 1 dX10_end_0 rfl rfl ?_
  refine tj_if_lt (tgt := 12) ok dX10_end_1 (by decide) (fun hc => ?_) (fun hc => ?_)
  · rw [if_pos hc] at hf
    refine tj_sub (lv' := []) [] rfl ?_
    exact (q_X10_end_12 hf).2 X g K ok nmx lev hK en
  · rw [if_neg hc] at hf
    exact (q_X10_end_4 hf).2 X g K ok nmx lev hK en
def f_X10_end (a0 : Nat) (a1 : Int32) (h : AH) : Option (Int32 × AH) := b_X10_end_0  a0 a1 h
theorem c_X10_end {a0 : Nat} {a1 : Int32} {h hE : AH} {v : Int32} (hf : f_X10_end a0 a1 h = some (v, hE)) : ∀ g : GT, CM g (2) yX10_end cX10_end 2 (some .boolean) h [.inr (.inr (a0)), .inl (a1)] hE (some (.inl (v))) :=
  CM.ofJ (by decide) (by show _ ≤ 2; exact Nat.le_of_ble_eq_true rfl) (q_X10_end_0 hf)
/-! ===== LitmusHouse.fault(I)I ===== -/
def b_X10_fault_28 (a0 : Nat) (h : AH) : Option (Int32 × AH) :=
  (g_i h a0 10 8).bind fun x1 => some (x1, h)
set_option maxHeartbeats 4000000 in
set_option maxRecDepth 100000 in
theorem q_X10_fault_28 {a0 : Nat} {h hE : AH} {v : Int32} (hf : b_X10_fault_28 a0 h = some (v, hE)) : JD cX10_fault 2 RX10 "fault" (some .int) (2) 28 [(0, .inr (.inr (a0)))] [] h hE (some (.inl (v))) := by
  unfold b_X10_fault_28 at hf
  obtain ⟨x1, e1, hf⟩ := bnd hf
  obtain ⟨hv, hh⟩ := Prod.mk.inj (Option.some.inj hf)
  subst hv
  subst hh
  have mE : hp_n h ≤ hp_n h ∧ hp_s h ≤ hp_s h := ⟨Nat.le_refl _, Nat.le_refl _⟩
  refine ⟨by omega, fun X g K ok nmx lev hK en => ?_⟩
  refine tj_aload_n ok 0 dX10_fault_28 rfl rfl ?_
  refine tj_getI (k := 8) ok fcX10 (by decide) wm_93 rfl (Or.inl rfl) dX10_fault_29 e1 ?_
  exact tj_ireturn ok en dX10_fault_32
def b_X10_fault_33 (a0 : Nat) (h : AH) : Option (Int32 × AH) :=
  (g_i h a0 10 9).bind fun x1 => some (x1, h)
set_option maxHeartbeats 4000000 in
set_option maxRecDepth 100000 in
theorem q_X10_fault_33 {a0 : Nat} {h hE : AH} {v : Int32} (hf : b_X10_fault_33 a0 h = some (v, hE)) : JD cX10_fault 2 RX10 "fault" (some .int) (2) 33 [(0, .inr (.inr (a0)))] [] h hE (some (.inl (v))) := by
  unfold b_X10_fault_33 at hf
  obtain ⟨x1, e1, hf⟩ := bnd hf
  obtain ⟨hv, hh⟩ := Prod.mk.inj (Option.some.inj hf)
  subst hv
  subst hh
  have mE : hp_n h ≤ hp_n h ∧ hp_s h ≤ hp_s h := ⟨Nat.le_refl _, Nat.le_refl _⟩
  refine ⟨by omega, fun X g K ok nmx lev hK en => ?_⟩
  refine tj_aload_n ok 0 dX10_fault_33 rfl rfl ?_
  refine tj_getI (k := 9) ok fcX10 (by decide) wm_94 rfl (Or.inl rfl) dX10_fault_34 e1 ?_
  exact tj_ireturn ok en dX10_fault_37
def b_X10_fault_38  (h : AH) : Option (Int32 × AH) :=
  some ((-1 : Int32), h)
set_option maxHeartbeats 4000000 in
set_option maxRecDepth 100000 in
theorem q_X10_fault_38 {h hE : AH} {v : Int32} (hf : b_X10_fault_38  h = some (v, hE)) : JD cX10_fault 2 RX10 "fault" (some .int) (2) 38 [] [] h hE (some (.inl (v))) := by
  unfold b_X10_fault_38 at hf
  obtain ⟨hv, hh⟩ := Prod.mk.inj (Option.some.inj hf)
  subst hv
  subst hh
  have mE : hp_n h ≤ hp_n h ∧ hp_s h ≤ hp_s h := ⟨Nat.le_refl _, Nat.le_refl _⟩
  refine ⟨by omega, fun X g K ok nmx lev hK en => ?_⟩
  refine tj_iconst (v := -1) ok dX10_fault_38 (by decide) ?_
  exact tj_ireturn ok en dX10_fault_39
def b_X10_fault_0 (a0 : Nat) (a1 : Int32) (h : AH) : Option (Int32 × AH) :=
  if a1 = 0 then b_X10_fault_28 a0 h else if a1 = 1 then b_X10_fault_33 a0 h else b_X10_fault_38 h
set_option maxHeartbeats 4000000 in
set_option maxRecDepth 100000 in
theorem q_X10_fault_0 {a0 : Nat} {a1 : Int32} {h hE : AH} {v : Int32} (hf : b_X10_fault_0 a0 a1 h = some (v, hE)) : JD cX10_fault 2 RX10 "fault" (some .int) (2) 0 [(0, .inr (.inr (a0))), (1, .inl (a1))] [] h hE (some (.inl (v))) := by
  unfold b_X10_fault_0 at hf
  have mE : hp_n h ≤ hp_n hE ∧ hp_s h ≤ hp_s hE := by
    by_cases hc0 : a1 = 0
    · rw [if_pos hc0] at hf; exact (q_X10_fault_28 hf).1
    rw [if_neg hc0] at hf
    by_cases hc1 : a1 = 1
    · rw [if_pos hc1] at hf; exact (q_X10_fault_33 hf).1
    rw [if_neg hc1] at hf
    exact (q_X10_fault_38 hf).1
  refine ⟨by omega, fun X g K ok nmx lev hK en => ?_⟩
  refine tj_iload_n ok 1 dX10_fault_0 rfl rfl ?_
  by_cases hc0 : a1 = 0
  · rw [if_pos hc0] at hf
    have hx : (a1).toInt = 0 := by rw [hc0]; decide
    refine tj_lookup (off := 27) (tgt := 28) ok dX10_fault_1 (by decide) (by rw [hx]; decide) (by decide) ?_
    refine tj_sub (lv' := [(0, .inr (.inr (a0)))]) [0] rfl ?_
    exact (q_X10_fault_28 hf).2 X g K ok nmx lev hK en
  rw [if_neg hc0] at hf
  have hn0 := tn_i (n := 0) (by decide) hc0
  have hp0 := tn_j hn0
  by_cases hc1 : a1 = 1
  · rw [if_pos hc1] at hf
    have hx : (a1).toInt = 1 := by rw [hc1]; decide
    refine tj_lookup (off := 32) (tgt := 33) ok dX10_fault_1 (by decide) (by rw [hx]; decide) (by decide) ?_
    refine tj_sub (lv' := [(0, .inr (.inr (a0)))]) [0] rfl ?_
    exact (q_X10_fault_33 hf).2 X g K ok nmx lev hK en
  rw [if_neg hc1] at hf
  have hn1 := tn_i (n := 1) (by decide) hc1
  have hp1 := tn_j hn1
  refine tj_lookup (off := 37) (tgt := 38) ok dX10_fault_1 (by decide) (by show Op.lookupswitch.offset [(0, 27), (1, 32)] (37) _ = _; simp only [Op.lookupswitch.offset, hp0, hp1, if_false]) (by decide) ?_
  refine tj_sub (lv' := []) [] rfl ?_
  exact (q_X10_fault_38 hf).2 X g K ok nmx lev hK en
def f_X10_fault (a0 : Nat) (a1 : Int32) (h : AH) : Option (Int32 × AH) := b_X10_fault_0  a0 a1 h
theorem c_X10_fault {a0 : Nat} {a1 : Int32} {h hE : AH} {v : Int32} (hf : f_X10_fault a0 a1 h = some (v, hE)) : ∀ g : GT, CM g (2) yX10_fault cX10_fault 2 (some .int) h [.inr (.inr (a0)), .inl (a1)] hE (some (.inl (v))) :=
  CM.ofJ (by decide) (by show _ ≤ 2; exact Nat.le_of_ble_eq_true rfl) (q_X10_fault_0 hf)
/-! ===== LitmusHouse.feedNumber(I)V ===== -/
def b_X10_feedNumber_49  (h : AH) : Option (AH) :=
  some h
set_option maxHeartbeats 4000000 in
set_option maxRecDepth 100000 in
theorem q_X10_feedNumber_49 {h hE : AH} (hf : b_X10_feedNumber_49  h = some hE) : JD cX10_feedNumber 3 RX10 "feedNumber" none (2) 49 [] [] h hE none := by
  unfold b_X10_feedNumber_49 at hf
  have hh := Option.some.inj hf
  subst hh
  have mE : hp_n h ≤ hp_n h ∧ hp_s h ≤ hp_s h := ⟨Nat.le_refl _, Nat.le_refl _⟩
  refine ⟨by omega, fun X g K ok nmx lev hK en => ?_⟩
  exact tj_return ok en dX10_feedNumber_49
def b_X10_feedNumber_43 (r3 : Nat → Int32 → Int32 → AH → Option (AH)) (a0 : Nat) (a1 : Int32) (a2 : Int32) (h : AH) : Option (AH) :=
  r3 a0 a1 (a2 + (-8 : Int32)) h
set_option maxHeartbeats 4000000 in
set_option maxRecDepth 100000 in
theorem q_X10_feedNumber_43 {hE : AH} {r3 : Nat → Int32 → Int32 → AH → Option (AH)} (hr3 : ∀ (b0 : Nat) (b1 : Int32) (b2 : Int32) (h : AH), r3 b0 b1 b2 h = some hE → JD cX10_feedNumber 3 RX10 "feedNumber" none (2) 3 [(0, .inr (.inr (b0))), (1, .inl (b1)), (2, .inl (b2))] [] h hE none) {a0 : Nat} {a1 : Int32} {a2 : Int32} {h : AH} (hf : b_X10_feedNumber_43 r3 a0 a1 a2 h = some hE) : JD cX10_feedNumber 3 RX10 "feedNumber" none (2) 43 [(0, .inr (.inr (a0))), (1, .inl (a1)), (2, .inl (a2))] [] h hE none := by
  unfold b_X10_feedNumber_43 at hf
  have J := hr3 _ _ _ _ hf
  have mE := J.1
  refine ⟨by omega, fun X g K ok nmx lev hK en => ?_⟩
  refine tj_iinc (lv' := [(0, .inr (.inr (a0))), (1, .inl (a1)), (2, .inl (a2 + (-8 : Int32)))]) ok 2 dX10_feedNumber_43 rfl (rfl) (by decide) rfl ?_
  refine tj_goto (tgt := 3) ok dX10_feedNumber_46 (by decide) ?_
  exact J.2 X g K ok nmx lev hK en
def b_X10_feedNumber_17 (r3 : Nat → Int32 → Int32 → AH → Option (AH)) (a0 : Nat) (a1 : Int32) (a2 : Int32) (h : AH) : Option (AH) :=
  (g_r h a0 10 0).bind fun x1 => (g_i h a0 10 7).bind fun x2 => (s_i h x1 x2 ((us_i a1 a2) &&& (255 : Int32))).bind fun h3 => (g_i h3 a0 10 7).bind fun x4 => (p_i h3 a0 10 7 (x4 + (1 : Int32))).bind fun h5 => b_X10_feedNumber_43 r3 a0 a1 a2 h5
set_option maxHeartbeats 4000000 in
set_option maxRecDepth 100000 in
theorem q_X10_feedNumber_17 {hE : AH} {r3 : Nat → Int32 → Int32 → AH → Option (AH)} (hr3 : ∀ (b0 : Nat) (b1 : Int32) (b2 : Int32) (h : AH), r3 b0 b1 b2 h = some hE → JD cX10_feedNumber 3 RX10 "feedNumber" none (2) 3 [(0, .inr (.inr (b0))), (1, .inl (b1)), (2, .inl (b2))] [] h hE none) {a0 : Nat} {a1 : Int32} {a2 : Int32} {h : AH} (hf : b_X10_feedNumber_17 r3 a0 a1 a2 h = some hE) : JD cX10_feedNumber 3 RX10 "feedNumber" none (2) 17 [(0, .inr (.inr (a0))), (1, .inl (a1)), (2, .inl (a2))] [] h hE none := by
  unfold b_X10_feedNumber_17 at hf
  obtain ⟨x1, e1, hf⟩ := bnd hf
  obtain ⟨x2, e2, hf⟩ := bnd hf
  obtain ⟨h3, e3, hf⟩ := bnd hf
  have m3 := nn_si e3
  obtain ⟨x4, e4, hf⟩ := bnd hf
  obtain ⟨h5, e5, hf⟩ := bnd hf
  have m5 := nn_pi e5
  have J := q_X10_feedNumber_43 hr3 hf
  have mE := J.1
  refine ⟨by omega, fun X g K ok nmx lev hK en => ?_⟩
  refine tj_aload_n ok 0 dX10_feedNumber_17 rfl rfl ?_
  refine tj_getR (k := 0) ok fcX10 (by decide) wm_96 rfl (Or.inr ⟨_, rfl⟩) dX10_feedNumber_18 e1 ?_
  refine tj_aload_n ok 0 dX10_feedNumber_21 rfl rfl ?_
  refine tj_getI (k := 7) ok fcX10 (by decide) wm_91 rfl (Or.inl rfl) dX10_feedNumber_22 e2 ?_
  refine tj_iload_n ok 1 dX10_feedNumber_25 rfl rfl ?_
  refine tj_iload_n ok 2 dX10_feedNumber_26 rfl rfl ?_
  refine tj_iushr ok dX10_feedNumber_27 ?_
  refine tj_sipush (v := 255) ok dX10_feedNumber_28 (by decide) ?_
  refine tj_iand ok dX10_feedNumber_31 ?_
  refine tj_iastore ok dX10_feedNumber_32 e3 ?_
  refine tj_aload_n ok 0 dX10_feedNumber_33 rfl rfl ?_
  refine tj_dupa ok dX10_feedNumber_34 ?_
  refine tj_getI (k := 7) ok fcX10 (by decide) wm_91 rfl (Or.inl rfl) dX10_feedNumber_35 e4 ?_
  refine tj_iconst (v := 1) ok dX10_feedNumber_38 (by decide) ?_
  refine tj_iadd ok dX10_feedNumber_39 ?_
  refine tj_putI (k := 7) ok fcX10 (by decide) wm_91 rfl (Or.inl rfl) rfl dX10_feedNumber_40 e5 ?_
  exact J.2 X g K ok nmx lev hK en
def b_X10_feedNumber_7 (r3 : Nat → Int32 → Int32 → AH → Option (AH)) (a0 : Nat) (a1 : Int32) (a2 : Int32) (h : AH) : Option (AH) :=
  (g_i h a0 10 7).bind fun x1 => if (1000 : Int32) ≤ x1 then b_X10_feedNumber_43 r3 a0 a1 a2 h else b_X10_feedNumber_17 r3 a0 a1 a2 h
set_option maxHeartbeats 4000000 in
set_option maxRecDepth 100000 in
theorem q_X10_feedNumber_7 {hE : AH} {r3 : Nat → Int32 → Int32 → AH → Option (AH)} (hr3 : ∀ (b0 : Nat) (b1 : Int32) (b2 : Int32) (h : AH), r3 b0 b1 b2 h = some hE → JD cX10_feedNumber 3 RX10 "feedNumber" none (2) 3 [(0, .inr (.inr (b0))), (1, .inl (b1)), (2, .inl (b2))] [] h hE none) {a0 : Nat} {a1 : Int32} {a2 : Int32} {h : AH} (hf : b_X10_feedNumber_7 r3 a0 a1 a2 h = some hE) : JD cX10_feedNumber 3 RX10 "feedNumber" none (2) 7 [(0, .inr (.inr (a0))), (1, .inl (a1)), (2, .inl (a2))] [] h hE none := by
  unfold b_X10_feedNumber_7 at hf
  obtain ⟨x1, e1, hf⟩ := bnd hf
  have mE : hp_n h ≤ hp_n hE ∧ hp_s h ≤ hp_s hE := by
    by_cases hc : (1000 : Int32) ≤ x1
    · rw [if_pos hc] at hf; exact (q_X10_feedNumber_43 hr3 hf).1
    · rw [if_neg hc] at hf; exact (q_X10_feedNumber_17 hr3 hf).1
  refine ⟨by omega, fun X g K ok nmx lev hK en => ?_⟩
  refine tj_aload_n ok 0 dX10_feedNumber_7 rfl rfl ?_
  refine tj_getI (k := 7) ok fcX10 (by decide) wm_91 rfl (Or.inl rfl) dX10_feedNumber_8 e1 ?_
  refine tj_sipush (v := 1000) ok dX10_feedNumber_11 (by decide) ?_
  refine tj_icmp_ge (tgt := 43) ok dX10_feedNumber_14 (by decide) (fun hc => ?_) (fun hc => ?_)
  · rw [if_pos hc] at hf
    exact (q_X10_feedNumber_43 hr3 hf).2 X g K ok nmx lev hK en
  · rw [if_neg hc] at hf
    exact (q_X10_feedNumber_17 hr3 hf).2 X g K ok nmx lev hK en
def b_X10_feedNumber_3 (r3 : Nat → Int32 → Int32 → AH → Option (AH)) (a0 : Nat) (a1 : Int32) (a2 : Int32) (h : AH) : Option (AH) :=
  if a2 < 0 then b_X10_feedNumber_49 h else b_X10_feedNumber_7 r3 a0 a1 a2 h
set_option maxHeartbeats 4000000 in
set_option maxRecDepth 100000 in
theorem q_X10_feedNumber_3 {hE : AH} {r3 : Nat → Int32 → Int32 → AH → Option (AH)} (hr3 : ∀ (b0 : Nat) (b1 : Int32) (b2 : Int32) (h : AH), r3 b0 b1 b2 h = some hE → JD cX10_feedNumber 3 RX10 "feedNumber" none (2) 3 [(0, .inr (.inr (b0))), (1, .inl (b1)), (2, .inl (b2))] [] h hE none) {a0 : Nat} {a1 : Int32} {a2 : Int32} {h : AH} (hf : b_X10_feedNumber_3 r3 a0 a1 a2 h = some hE) : JD cX10_feedNumber 3 RX10 "feedNumber" none (2) 3 [(0, .inr (.inr (a0))), (1, .inl (a1)), (2, .inl (a2))] [] h hE none := by
  unfold b_X10_feedNumber_3 at hf
  have mE : hp_n h ≤ hp_n hE ∧ hp_s h ≤ hp_s hE := by
    by_cases hc : a2 < 0
    · rw [if_pos hc] at hf; exact (q_X10_feedNumber_49 hf).1
    · rw [if_neg hc] at hf; exact (q_X10_feedNumber_7 hr3 hf).1
  refine ⟨by omega, fun X g K ok nmx lev hK en => ?_⟩
  refine tj_iload_n ok 2 dX10_feedNumber_3 rfl rfl ?_
  refine tj_if_lt (tgt := 49) ok dX10_feedNumber_4 (by decide) (fun hc => ?_) (fun hc => ?_)
  · rw [if_pos hc] at hf
    refine tj_sub (lv' := []) [] rfl ?_
    exact (q_X10_feedNumber_49 hf).2 X g K ok nmx lev hK en
  · rw [if_neg hc] at hf
    exact (q_X10_feedNumber_7 hr3 hf).2 X g K ok nmx lev hK en
def l_X10_feedNumber_3 : Nat → Nat → Int32 → Int32 → AH → Option (AH)
  | 0 => fun _ _ _ _ => none
  | n + 1 => fun a0 a1 a2 h => b_X10_feedNumber_3 (l_X10_feedNumber_3 n) a0 a1 a2 h
theorem ql_X10_feedNumber_3 {n : Nat} {a0 : Nat} {a1 : Int32} {a2 : Int32} {h hE : AH} (hf : l_X10_feedNumber_3 n a0 a1 a2 h = some hE) : JD cX10_feedNumber 3 RX10 "feedNumber" none (2) 3 [(0, .inr (.inr (a0))), (1, .inl (a1)), (2, .inl (a2))] [] h hE none := by
  induction n generalizing a0 a1 a2 h with
  | zero => cases hf
  | succ n ih => exact q_X10_feedNumber_3 (fun _ _ _ _ hf => ih hf) hf
def b_X10_feedNumber_0 (a0 : Nat) (a1 : Int32) (h : AH) : Option (AH) :=
  l_X10_feedNumber_3 fu_ a0 a1 (24 : Int32) h
set_option maxHeartbeats 4000000 in
set_option maxRecDepth 100000 in
theorem q_X10_feedNumber_0 {a0 : Nat} {a1 : Int32} {h hE : AH} (hf : b_X10_feedNumber_0 a0 a1 h = some hE) : JD cX10_feedNumber 3 RX10 "feedNumber" none (2) 0 [(0, .inr (.inr (a0))), (1, .inl (a1))] [] h hE none := by
  unfold b_X10_feedNumber_0 at hf
  have J := ql_X10_feedNumber_3 hf
  have mE := J.1
  refine ⟨by omega, fun X g K ok nmx lev hK en => ?_⟩
  refine tj_bipush (v := 24) ok dX10_feedNumber_0 (by decide) ?_
  refine tj_istore_n (lv' := [(0, .inr (.inr (a0))), (1, .inl (a1)), (2, .inl ((24 : Int32)))]) ok dX10_feedNumber_2 rfl (by decide) rfl ?_
  exact J.2 X g K ok nmx lev hK en
def f_X10_feedNumber (a0 : Nat) (a1 : Int32) (h : AH) : Option (AH) := b_X10_feedNumber_0  a0 a1 h
theorem c_X10_feedNumber {a0 : Nat} {a1 : Int32} {h hE : AH} (hf : f_X10_feedNumber a0 a1 h = some hE) : ∀ g : GT, CM g (2) yX10_feedNumber cX10_feedNumber 3 none h [.inr (.inr (a0)), .inl (a1)] hE none :=
  CM.ofJ (by decide) (by show _ ≤ 3; exact Nat.le_of_ble_eq_true rfl) (q_X10_feedNumber_0 hf)
/-! ===== LitmusHouse.feed(IIIII)I ===== -/
def b_X10_feed_12 (a0 : Nat) (a1 : Int32) (a2 : Int32) (a3 : Int32) (a4 : Int32) (a5 : Int32) (h : AH) : Option (Int32 × AH) :=
  (ok_v h a0 10).bind fun x1 => (f_X10_feedNumber a0 a1 h).bind fun h2 => (ok_v h2 a0 10).bind fun x3 => (f_X10_feedNumber a0 a2 h2).bind fun h4 => (ok_v h4 a0 10).bind fun x5 => (f_X10_feedNumber a0 a3 h4).bind fun h6 => (ok_v h6 a0 10).bind fun x7 => (f_X10_feedNumber a0 a4 h6).bind fun h8 => (ok_v h8 a0 10).bind fun x9 => (f_X10_feedNumber a0 a5 h8).bind fun h10 => (g_i h10 a0 10 7).bind fun x11 => some (x11, h10)
set_option maxHeartbeats 4000000 in
set_option maxRecDepth 100000 in
theorem q_X10_feed_12 {a0 : Nat} {a1 : Int32} {a2 : Int32} {a3 : Int32} {a4 : Int32} {a5 : Int32} {h hE : AH} {v : Int32} (hf : b_X10_feed_12 a0 a1 a2 a3 a4 a5 h = some (v, hE)) : JD cX10_feed 6 RX10 "feed" (some .int) (3) 12 [(0, .inr (.inr (a0))), (1, .inl (a1)), (2, .inl (a2)), (3, .inl (a3)), (4, .inl (a4)), (5, .inl (a5))] [] h hE (some (.inl (v))) := by
  unfold b_X10_feed_12 at hf
  obtain ⟨x1, e1, hf⟩ := bnd hf
  obtain ⟨h2, e2, hf⟩ := bnd hf
  have k2 := c_X10_feedNumber e2
  have m2 := (k2 default_g).1
  obtain ⟨x3, e3, hf⟩ := bnd hf
  obtain ⟨h4, e4, hf⟩ := bnd hf
  have k4 := c_X10_feedNumber e4
  have m4 := (k4 default_g).1
  obtain ⟨x5, e5, hf⟩ := bnd hf
  obtain ⟨h6, e6, hf⟩ := bnd hf
  have k6 := c_X10_feedNumber e6
  have m6 := (k6 default_g).1
  obtain ⟨x7, e7, hf⟩ := bnd hf
  obtain ⟨h8, e8, hf⟩ := bnd hf
  have k8 := c_X10_feedNumber e8
  have m8 := (k8 default_g).1
  obtain ⟨x9, e9, hf⟩ := bnd hf
  obtain ⟨h10, e10, hf⟩ := bnd hf
  have k10 := c_X10_feedNumber e10
  have m10 := (k10 default_g).1
  obtain ⟨x11, e11, hf⟩ := bnd hf
  obtain ⟨hv, hh⟩ := Prod.mk.inj (Option.some.inj hf)
  subst hv
  subst hh
  have mE : hp_n h10 ≤ hp_n h10 ∧ hp_s h10 ≤ hp_s h10 := ⟨Nat.le_refl _, Nat.le_refl _⟩
  refine ⟨by omega, fun X g K ok nmx lev hK en => ?_⟩
  refine tj_aload_n ok 0 dX10_feed_12 rfl rfl ?_
  refine tj_iload_n ok 1 dX10_feed_13 rfl rfl ?_
  refine tj_callV (rest := ([] : List TV).map (vl g)) (as := [.inl (a1)]) ok lev (by omega) fcX10.1 (by decide) rfl (of_if e1).1 (k2 g) (CaX.of en (by omega)) kn_X10_feedNumber wm_98 wm_99 wm_100 (rs_ok (Nat.le_of_ble_eq_true rfl)) rfl rfl dX10_feed_14 ?_
  refine tj_aload_n ok 0 dX10_feed_17 rfl rfl ?_
  refine tj_iload_n ok 2 dX10_feed_18 rfl rfl ?_
  refine tj_callV (rest := ([] : List TV).map (vl g)) (as := [.inl (a2)]) ok lev (by omega) fcX10.1 (by decide) rfl (of_if e3).1 (k4 g) (CaX.of en (by omega)) kn_X10_feedNumber wm_98 wm_99 wm_100 (rs_ok (Nat.le_of_ble_eq_true rfl)) rfl rfl dX10_feed_19 ?_
  refine tj_aload_n ok 0 dX10_feed_22 rfl rfl ?_
  refine tj_iload_n ok 3 dX10_feed_23 rfl rfl ?_
  refine tj_callV (rest := ([] : List TV).map (vl g)) (as := [.inl (a3)]) ok lev (by omega) fcX10.1 (by decide) rfl (of_if e5).1 (k6 g) (CaX.of en (by omega)) kn_X10_feedNumber wm_98 wm_99 wm_100 (rs_ok (Nat.le_of_ble_eq_true rfl)) rfl rfl dX10_feed_24 ?_
  refine tj_aload_n ok 0 dX10_feed_27 rfl rfl ?_
  refine tj_iload ok 4 dX10_feed_28 rfl ?_
  refine tj_callV (rest := ([] : List TV).map (vl g)) (as := [.inl (a4)]) ok lev (by omega) fcX10.1 (by decide) rfl (of_if e7).1 (k8 g) (CaX.of en (by omega)) kn_X10_feedNumber wm_98 wm_99 wm_100 (rs_ok (Nat.le_of_ble_eq_true rfl)) rfl rfl dX10_feed_30 ?_
  refine tj_aload_n ok 0 dX10_feed_33 rfl rfl ?_
  refine tj_iload ok 5 dX10_feed_34 rfl ?_
  refine tj_callV (rest := ([] : List TV).map (vl g)) (as := [.inl (a5)]) ok lev (by omega) fcX10.1 (by decide) rfl (of_if e9).1 (k10 g) (CaX.of en (by omega)) kn_X10_feedNumber wm_98 wm_99 wm_100 (rs_ok (Nat.le_of_ble_eq_true rfl)) rfl rfl dX10_feed_36 ?_
  refine tj_aload_n ok 0 dX10_feed_39 rfl rfl ?_
  refine tj_getI (k := 7) ok fcX10 (by decide) wm_91 rfl (Or.inl rfl) dX10_feed_40 e11 ?_
  exact tj_ireturn ok en dX10_feed_43
def b_X10_feed_10  (h : AH) : Option (Int32 × AH) :=
  some ((-1 : Int32), h)
set_option maxHeartbeats 4000000 in
set_option maxRecDepth 100000 in
theorem q_X10_feed_10 {h hE : AH} {v : Int32} (hf : b_X10_feed_10  h = some (v, hE)) : JD cX10_feed 6 RX10 "feed" (some .int) (3) 10 [] [] h hE (some (.inl (v))) := by
  unfold b_X10_feed_10 at hf
  obtain ⟨hv, hh⟩ := Prod.mk.inj (Option.some.inj hf)
  subst hv
  subst hh
  have mE : hp_n h ≤ hp_n h ∧ hp_s h ≤ hp_s h := ⟨Nat.le_refl _, Nat.le_refl _⟩
  refine ⟨by omega, fun X g K ok nmx lev hK en => ?_⟩
  refine tj_iconst (v := -1) ok dX10_feed_10 (by decide) ?_
  exact tj_ireturn ok en dX10_feed_11
def b_X10_feed_0 (a0 : Nat) (a1 : Int32) (a2 : Int32) (a3 : Int32) (a4 : Int32) (a5 : Int32) (h : AH) : Option (Int32 × AH) :=
  (g_i h a0 10 7).bind fun x1 => if x1 ≤ (980 : Int32) then b_X10_feed_12 a0 a1 a2 a3 a4 a5 h else b_X10_feed_10 h
set_option maxHeartbeats 4000000 in
set_option maxRecDepth 100000 in
theorem q_X10_feed_0 {a0 : Nat} {a1 : Int32} {a2 : Int32} {a3 : Int32} {a4 : Int32} {a5 : Int32} {h hE : AH} {v : Int32} (hf : b_X10_feed_0 a0 a1 a2 a3 a4 a5 h = some (v, hE)) : JD cX10_feed 6 RX10 "feed" (some .int) (3) 0 [(0, .inr (.inr (a0))), (1, .inl (a1)), (2, .inl (a2)), (3, .inl (a3)), (4, .inl (a4)), (5, .inl (a5))] [] h hE (some (.inl (v))) := by
  unfold b_X10_feed_0 at hf
  obtain ⟨x1, e1, hf⟩ := bnd hf
  have mE : hp_n h ≤ hp_n hE ∧ hp_s h ≤ hp_s hE := by
    by_cases hc : x1 ≤ (980 : Int32)
    · rw [if_pos hc] at hf; exact (q_X10_feed_12 hf).1
    · rw [if_neg hc] at hf; exact (q_X10_feed_10 hf).1
  refine ⟨by omega, fun X g K ok nmx lev hK en => ?_⟩
  refine tj_aload_n ok 0 dX10_feed_0 rfl rfl ?_
  refine tj_getI (k := 7) ok fcX10 (by decide) wm_91 rfl (Or.inl rfl) dX10_feed_1 e1 ?_
  refine tj_sipush (v := 980) ok dX10_feed_4 (by decide) ?_
  refine tj_icmp_le (tgt := 12) ok dX10_feed_7 (by decide) (fun hc => ?_) (fun hc => ?_)
  · rw [if_pos hc] at hf
    exact (q_X10_feed_12 hf).2 X g K ok nmx lev hK en
  · rw [if_neg hc] at hf
    refine tj_sub (lv' := []) [] rfl ?_
    exact (q_X10_feed_10 hf).2 X g K ok nmx lev hK en
def f_X10_feed (a0 : Nat) (a1 : Int32) (a2 : Int32) (a3 : Int32) (a4 : Int32) (a5 : Int32) (h : AH) : Option (Int32 × AH) := b_X10_feed_0  a0 a1 a2 a3 a4 a5 h
theorem c_X10_feed {a0 : Nat} {a1 : Int32} {a2 : Int32} {a3 : Int32} {a4 : Int32} {a5 : Int32} {h hE : AH} {v : Int32} (hf : f_X10_feed a0 a1 a2 a3 a4 a5 h = some (v, hE)) : ∀ g : GT, CM g (3) yX10_feed cX10_feed 6 (some .int) h [.inr (.inr (a0)), .inl (a1), .inl (a2), .inl (a3), .inl (a4), .inl (a5)] hE (some (.inl (v))) :=
  CM.ofJ (by decide) (by show _ ≤ 6; exact Nat.le_of_ble_eq_true rfl) (q_X10_feed_0 hf)
/-! ===== LitmusHouse.<init>()V ===== -/
def b_X10_init_0 (a0 : Nat) (h : AH) : Option (AH) :=
  (ok_h a0).bind fun x1 => (n_a h 100 (1000 : Int32)).bind fun h2 => (p_r h2 a0 10 0 (hp_n h)).bind fun h3 => (n_a h3 102 (8 : Int32)).bind fun h4 => (p_r h4 a0 10 1 (hp_n h3)).bind fun h5 => (n_a h5 100 (5 : Int32)).bind fun h6 => (p_r h6 a0 10 2 (hp_n h5)).bind fun h7 => (ok_h (hp_n h7)).bind fun x9 => (f_X6_init (hp_n h7) (st_n h7 6 11)).bind fun h10 => (p_r h10 a0 10 3 (hp_n h7)).bind fun h11 => (ok_h (hp_n h11)).bind fun x13 => (f_X4_init (hp_n h11) (st_n h11 4 3)).bind fun h14 => (p_r h14 a0 10 4 (hp_n h11)).bind fun h15 => (ok_h (hp_n h15)).bind fun x17 => (f_X8_init (hp_n h15) (st_n h15 8 13)).bind fun h18 => (p_r h18 a0 10 5 (hp_n h15)).bind fun h19 => (ok_h (hp_n h19)).bind fun x21 => (f_X1_init (hp_n h19) (st_n h19 1 2)).bind fun h22 => (p_r h22 a0 10 6 (hp_n h19)).bind fun h23 => (p_i h23 a0 10 7 (0 : Int32)).bind fun h24 => (p_i h24 a0 10 8 (0 : Int32)).bind fun h25 => (p_i h25 a0 10 9 (-1 : Int32)).bind fun h26 => (g_r h26 a0 10 2).bind fun x27 => (f_J7_fill_53178 x27 (-1 : Int32) h26).bind fun h28 => some h28
set_option maxHeartbeats 4000000 in
set_option maxRecDepth 100000 in
theorem q_X10_init_0 {a0 : Nat} {h hE : AH} (hf : b_X10_init_0 a0 h = some hE) : JD cX10_init 1 RX10 "<init>" none (5) 0 [(0, .inr (.inr (a0)))] [] h hE none := by
  unfold b_X10_init_0 at hf
  obtain ⟨x1, e1, hf⟩ := bnd hf
  obtain ⟨h2, e2, hf⟩ := bnd hf
  have m2 := nn_n e2
  obtain ⟨h3, e3, hf⟩ := bnd hf
  have m3 := nn_pr e3
  obtain ⟨h4, e4, hf⟩ := bnd hf
  have m4 := nn_n e4
  obtain ⟨h5, e5, hf⟩ := bnd hf
  have m5 := nn_pr e5
  obtain ⟨h6, e6, hf⟩ := bnd hf
  have m6 := nn_n e6
  obtain ⟨h7, e7, hf⟩ := bnd hf
  have m7 := nn_pr e7
  have m8 := nn_o (h := h7) (c := 6) (n := 11)
  obtain ⟨x9, e9, hf⟩ := bnd hf
  obtain ⟨h10, e10, hf⟩ := bnd hf
  have k10 := c_X6_init e10
  have m10 := (k10 default_g).1
  obtain ⟨h11, e11, hf⟩ := bnd hf
  have m11 := nn_pr e11
  have m12 := nn_o (h := h11) (c := 4) (n := 3)
  obtain ⟨x13, e13, hf⟩ := bnd hf
  obtain ⟨h14, e14, hf⟩ := bnd hf
  have k14 := c_X4_init e14
  have m14 := (k14 default_g).1
  obtain ⟨h15, e15, hf⟩ := bnd hf
  have m15 := nn_pr e15
  have m16 := nn_o (h := h15) (c := 8) (n := 13)
  obtain ⟨x17, e17, hf⟩ := bnd hf
  obtain ⟨h18, e18, hf⟩ := bnd hf
  have k18 := c_X8_init e18
  have m18 := (k18 default_g).1
  obtain ⟨h19, e19, hf⟩ := bnd hf
  have m19 := nn_pr e19
  have m20 := nn_o (h := h19) (c := 1) (n := 2)
  obtain ⟨x21, e21, hf⟩ := bnd hf
  obtain ⟨h22, e22, hf⟩ := bnd hf
  have k22 := c_X1_init e22
  have m22 := (k22 default_g).1
  obtain ⟨h23, e23, hf⟩ := bnd hf
  have m23 := nn_pr e23
  obtain ⟨h24, e24, hf⟩ := bnd hf
  have m24 := nn_pi e24
  obtain ⟨h25, e25, hf⟩ := bnd hf
  have m25 := nn_pi e25
  obtain ⟨h26, e26, hf⟩ := bnd hf
  have m26 := nn_pi e26
  obtain ⟨x27, e27, hf⟩ := bnd hf
  obtain ⟨h28, e28, hf⟩ := bnd hf
  have k28 := c_J7_fill_53178 e28
  have m28 := (k28 default_g).1
  have hh := Option.some.inj hf
  subst hh
  have mE : hp_n h28 ≤ hp_n h28 ∧ hp_s h28 ≤ hp_s h28 := ⟨Nat.le_refl _, Nat.le_refl _⟩
  refine ⟨by omega, fun X g K ok nmx lev hK en => ?_⟩
  refine tj_aload_n ok 0 dX10_init_0 rfl rfl ?_
  refine tj_objInit (rest := ([] : List TV).map (vl g)) ok lev (by omega) (of_if e1).1 wm_197 wm_75 wm_obj (rs_ok (Nat.le_of_ble_eq_true rfl)) dX10_init_1 ?_
  refine tj_aload_n ok 0 dX10_init_4 rfl rfl ?_
  refine tj_sipush (v := 1000) ok dX10_init_5 (by decide) ?_
  refine tj_newI ok wm_39 dX10_init_8 e2 (CaX.of en (by omega)) ?_
  refine tj_putR (k := 0) ok fcX10 (by decide) wm_96 rfl (Or.inr ⟨nmx, rfl⟩) (Or.inr ⟨_, rfl⟩) dX10_init_10 e3 ?_
  refine tj_aload_n ok 0 dX10_init_13 rfl rfl ?_
  refine tj_bipush (v := 8) ok dX10_init_14 (by decide) ?_
  refine tj_newR ok wm_198 dX10_init_16 e4 (CaX.of en (by omega)) ?_
  refine tj_putR (k := 1) ok fcX10 (by decide) wm_199 rfl (Or.inr ⟨nmx, rfl⟩) (Or.inr ⟨_, rfl⟩) dX10_init_19 e5 ?_
  refine tj_aload_n ok 0 dX10_init_22 rfl rfl ?_
  refine tj_iconst (v := 5) ok dX10_init_23 (by decide) ?_
  refine tj_newI ok wm_39 dX10_init_24 e6 (CaX.of en (by omega)) ?_
  refine tj_putR (k := 2) ok fcX10 (by decide) wm_200 rfl (Or.inr ⟨nmx, rfl⟩) (Or.inr ⟨_, rfl⟩) dX10_init_26 e7 ?_
  refine tj_aload_n ok 0 dX10_init_29 rfl rfl ?_
  refine tj_new ok fcX6 wm_201 wm_202 wm_125 dX10_init_30 nfX6 ndX6 (CaX.of en (by omega)) ?_
  refine tj_dupa ok dX10_init_33 ?_
  refine tj_callN (rest := ([.inr (.inr (hp_n h7)), .inr (.inr (a0))] : List TV).map (vl g)) (as := []) (i := 0) ok lev (by omega) (of_if e9).1 (k10 g) (CaX.of en (by omega)) kn_X6_init rfl rfl wm_203 (rs_ok (Nat.le_of_ble_eq_true rfl)) rfl dX10_init_34 ?_
  refine tj_putR (k := 3) ok fcX10 (by decide) wm_204 rfl (Or.inr ⟨nmx, rfl⟩) (Or.inl ⟨_, rfl⟩) dX10_init_37 e11 ?_
  refine tj_aload_n ok 0 dX10_init_40 rfl rfl ?_
  refine tj_new ok fcX4 wm_205 wm_206 wm_107 dX10_init_41 nfX4 ndX4 (CaX.of en (by omega)) ?_
  refine tj_dupa ok dX10_init_44 ?_
  refine tj_callN (rest := ([.inr (.inr (hp_n h11)), .inr (.inr (a0))] : List TV).map (vl g)) (as := []) (i := 2) ok lev (by omega) (of_if e13).1 (k14 g) (CaX.of en (by omega)) kn_X4_init rfl rfl wm_207 (rs_ok (Nat.le_of_ble_eq_true rfl)) rfl dX10_init_45 ?_
  refine tj_putR (k := 4) ok fcX10 (by decide) wm_208 rfl (Or.inr ⟨nmx, rfl⟩) (Or.inl ⟨_, rfl⟩) dX10_init_48 e15 ?_
  refine tj_aload_n ok 0 dX10_init_51 rfl rfl ?_
  refine tj_new ok fcX8 wm_209 wm_210 wm_172 dX10_init_52 nfX8 ndX8 (CaX.of en (by omega)) ?_
  refine tj_dupa ok dX10_init_55 ?_
  refine tj_callN (rest := ([.inr (.inr (hp_n h15)), .inr (.inr (a0))] : List TV).map (vl g)) (as := []) (i := 3) ok lev (by omega) (of_if e17).1 (k18 g) (CaX.of en (by omega)) kn_X8_init rfl rfl wm_211 (rs_ok (Nat.le_of_ble_eq_true rfl)) rfl dX10_init_56 ?_
  refine tj_putR (k := 5) ok fcX10 (by decide) wm_212 rfl (Or.inr ⟨nmx, rfl⟩) (Or.inl ⟨_, rfl⟩) dX10_init_59 e19 ?_
  refine tj_aload_n ok 0 dX10_init_62 rfl rfl ?_
  refine tj_new ok fcX1 wm_213 wm_214 wm_102 dX10_init_63 nfX1 ndX1 (CaX.of en (by omega)) ?_
  refine tj_dupa ok dX10_init_66 ?_
  refine tj_callN (rest := ([.inr (.inr (hp_n h19)), .inr (.inr (a0))] : List TV).map (vl g)) (as := []) (i := 8) ok lev (by omega) (of_if e21).1 (k22 g) (CaX.of en (by omega)) kn_X1_init rfl rfl wm_215 (rs_ok (Nat.le_of_ble_eq_true rfl)) rfl dX10_init_67 ?_
  refine tj_putR (k := 6) ok fcX10 (by decide) wm_216 rfl (Or.inr ⟨nmx, rfl⟩) (Or.inl ⟨_, rfl⟩) dX10_init_70 e23 ?_
  refine tj_aload_n ok 0 dX10_init_73 rfl rfl ?_
  refine tj_iconst (v := 0) ok dX10_init_74 (by decide) ?_
  refine tj_putI (k := 7) ok fcX10 (by decide) wm_91 rfl (Or.inl rfl) rfl dX10_init_75 e24 ?_
  refine tj_aload_n ok 0 dX10_init_78 rfl rfl ?_
  refine tj_iconst (v := 0) ok dX10_init_79 (by decide) ?_
  refine tj_putI (k := 8) ok fcX10 (by decide) wm_93 rfl (Or.inl rfl) rfl dX10_init_80 e25 ?_
  refine tj_aload_n ok 0 dX10_init_83 rfl rfl ?_
  refine tj_iconst (v := -1) ok dX10_init_84 (by decide) ?_
  refine tj_putI (k := 9) ok fcX10 (by decide) wm_94 rfl (Or.inl rfl) rfl dX10_init_85 e26 ?_
  refine tj_aload_n ok 0 dX10_init_88 rfl rfl ?_
  refine tj_getR (k := 2) ok fcX10 (by decide) wm_200 rfl (Or.inr ⟨_, rfl⟩) dX10_init_89 e27 ?_
  refine tj_iconst (v := -1) ok dX10_init_92 (by decide) ?_
  refine tj_callS (rest := ([] : List TV).map (vl g)) (as := [.inr (.inr (x27)), .inl ((-1 : Int32))]) ok lev (by omega) (k28 g) (CaX.of en (by omega)) kn_J7_fill_53178 wm_217 wm_218 (rs_ok (Nat.le_of_ble_eq_true rfl)) rfl rfl dX10_init_93 ?_
  exact tj_return ok en dX10_init_96
def f_X10_init (a0 : Nat) (h : AH) : Option (AH) := b_X10_init_0  a0 h
theorem c_X10_init {a0 : Nat} {h hE : AH} (hf : f_X10_init a0 h = some hE) : ∀ g : GT, CM g (5) yX10_init cX10_init 1 none h [.inr (.inr (a0))] hE none :=
  CM.ofJ (by decide) (by show _ ≤ 1; exact Nat.le_of_ble_eq_true rfl) (q_X10_init_0 hf)
/-! ===== LitmusHouse.isOrder(I)Z ===== -/
def b_X10_isOrder_14 (s0 : Int32) (h : AH) : Option (Int32 × AH) :=
  ok_z s0 h
set_option maxHeartbeats 4000000 in
set_option maxRecDepth 100000 in
theorem q_X10_isOrder_14 {s0 : Int32} {h hE : AH} {v : Int32} (hf : b_X10_isOrder_14 s0 h = some (v, hE)) : JD cX10_isOrder 1 RX10 "isOrder" (some .boolean) (2) 14 [] [.inl (s0)] h hE (some (.inl (v))) := by
  unfold b_X10_isOrder_14 at hf
  have mE : hp_n h ≤ hp_n hE ∧ hp_s h ≤ hp_s hE := by obtain ⟨-, q⟩ := of_if hf; cases q; exact ⟨Nat.le_refl _, Nat.le_refl _⟩
  refine ⟨by omega, fun X g K ok nmx lev hK en => ?_⟩
  exact tj_zreturn ok hf en dX10_isOrder_14
def b_X10_isOrder_13  (h : AH) : Option (Int32 × AH) :=
  b_X10_isOrder_14 (0 : Int32) h
set_option maxHeartbeats 4000000 in
set_option maxRecDepth 100000 in
theorem q_X10_isOrder_13 {h hE : AH} {v : Int32} (hf : b_X10_isOrder_13  h = some (v, hE)) : JD cX10_isOrder 1 RX10 "isOrder" (some .boolean) (2) 13 [] [] h hE (some (.inl (v))) := by
  unfold b_X10_isOrder_13 at hf
  have J := q_X10_isOrder_14 hf
  have mE := J.1
  refine ⟨by omega, fun X g K ok nmx lev hK en => ?_⟩
  refine tj_iconst (v := 0) ok dX10_isOrder_13 (by decide) ?_
  exact J.2 X g K ok nmx lev hK en
def b_X10_isOrder_9  (h : AH) : Option (Int32 × AH) :=
  b_X10_isOrder_14 (1 : Int32) h
set_option maxHeartbeats 4000000 in
set_option maxRecDepth 100000 in
theorem q_X10_isOrder_9 {h hE : AH} {v : Int32} (hf : b_X10_isOrder_9  h = some (v, hE)) : JD cX10_isOrder 1 RX10 "isOrder" (some .boolean) (2) 9 [] [] h hE (some (.inl (v))) := by
  unfold b_X10_isOrder_9 at hf
  have J := q_X10_isOrder_14 hf
  have mE := J.1
  refine ⟨by omega, fun X g K ok nmx lev hK en => ?_⟩
  refine tj_iconst (v := 1) ok dX10_isOrder_9 (by decide) ?_
  refine tj_goto (tgt := 14) ok dX10_isOrder_10 (by decide) ?_
  exact J.2 X g K ok nmx lev hK en
def b_X10_isOrder_4 (a0 : Int32) (h : AH) : Option (Int32 × AH) :=
  if (2 : Int32) < a0 then b_X10_isOrder_13 h else b_X10_isOrder_9 h
set_option maxHeartbeats 4000000 in
set_option maxRecDepth 100000 in
theorem q_X10_isOrder_4 {a0 : Int32} {h hE : AH} {v : Int32} (hf : b_X10_isOrder_4 a0 h = some (v, hE)) : JD cX10_isOrder 1 RX10 "isOrder" (some .boolean) (2) 4 [(0, .inl (a0))] [] h hE (some (.inl (v))) := by
  unfold b_X10_isOrder_4 at hf
  have mE : hp_n h ≤ hp_n hE ∧ hp_s h ≤ hp_s hE := by
    by_cases hc : (2 : Int32) < a0
    · rw [if_pos hc] at hf; exact (q_X10_isOrder_13 hf).1
    · rw [if_neg hc] at hf; exact (q_X10_isOrder_9 hf).1
  refine ⟨by omega, fun X g K ok nmx lev hK en => ?_⟩
  refine tj_iload_n ok 0 dX10_isOrder_4 rfl rfl ?_
  refine tj_iconst (v := 2) ok dX10_isOrder_5 (by decide) ?_
  refine tj_icmp_gt (tgt := 13) ok dX10_isOrder_6 (by decide) (fun hc => ?_) (fun hc => ?_)
  · rw [if_pos hc] at hf
    refine tj_sub (lv' := []) [] rfl ?_
    exact (q_X10_isOrder_13 hf).2 X g K ok nmx lev hK en
  · rw [if_neg hc] at hf
    refine tj_sub (lv' := []) [] rfl ?_
    exact (q_X10_isOrder_9 hf).2 X g K ok nmx lev hK en
def b_X10_isOrder_0 (a0 : Int32) (h : AH) : Option (Int32 × AH) :=
  if a0 < 0 then b_X10_isOrder_13 h else b_X10_isOrder_4 a0 h
set_option maxHeartbeats 4000000 in
set_option maxRecDepth 100000 in
theorem q_X10_isOrder_0 {a0 : Int32} {h hE : AH} {v : Int32} (hf : b_X10_isOrder_0 a0 h = some (v, hE)) : JD cX10_isOrder 1 RX10 "isOrder" (some .boolean) (2) 0 [(0, .inl (a0))] [] h hE (some (.inl (v))) := by
  unfold b_X10_isOrder_0 at hf
  have mE : hp_n h ≤ hp_n hE ∧ hp_s h ≤ hp_s hE := by
    by_cases hc : a0 < 0
    · rw [if_pos hc] at hf; exact (q_X10_isOrder_13 hf).1
    · rw [if_neg hc] at hf; exact (q_X10_isOrder_4 hf).1
  refine ⟨by omega, fun X g K ok nmx lev hK en => ?_⟩
  refine tj_iload_n ok 0 dX10_isOrder_0 rfl rfl ?_
  refine tj_if_lt (tgt := 13) ok dX10_isOrder_1 (by decide) (fun hc => ?_) (fun hc => ?_)
  · rw [if_pos hc] at hf
    refine tj_sub (lv' := []) [] rfl ?_
    exact (q_X10_isOrder_13 hf).2 X g K ok nmx lev hK en
  · rw [if_neg hc] at hf
    exact (q_X10_isOrder_4 hf).2 X g K ok nmx lev hK en
def f_X10_isOrder (a0 : Int32) (h : AH) : Option (Int32 × AH) := b_X10_isOrder_0  a0 h
theorem c_X10_isOrder {a0 : Int32} {h hE : AH} {v : Int32} (hf : f_X10_isOrder a0 h = some (v, hE)) : ∀ g : GT, CM g (2) yX10_isOrder cX10_isOrder 1 (some .boolean) h [.inl (a0)] hE (some (.inl (v))) :=
  CM.ofJ (by decide) (by show _ ≤ 1; exact Nat.le_of_ble_eq_true rfl) (q_X10_isOrder_0 hf)
/-! ===== LitmusHouse.out(I)I ===== -/
def b_X10_out_0 (a0 : Nat) (a1 : Int32) (h : AH) : Option (Int32 × AH) :=
  (g_r h a0 10 4).bind fun x1 => (ok_v h x1 4).bind fun x2 => (f_X4_byteAt x1 a1 h).bind fun q3 => some (q3.1, q3.2)
set_option maxHeartbeats 4000000 in
set_option maxRecDepth 100000 in
theorem q_X10_out_0 {a0 : Nat} {a1 : Int32} {h hE : AH} {v : Int32} (hf : b_X10_out_0 a0 a1 h = some (v, hE)) : JD cX10_out 2 RX10 "out" (some .int) (3) 0 [(0, .inr (.inr (a0))), (1, .inl (a1))] [] h hE (some (.inl (v))) := by
  unfold b_X10_out_0 at hf
  obtain ⟨x1, e1, hf⟩ := bnd hf
  obtain ⟨x2, e2, hf⟩ := bnd hf
  obtain ⟨⟨x3, h3⟩, e3, hf⟩ := bnd hf
  try dsimp only at hf
  have k3 := c_X4_byteAt e3
  have m3 := (k3 default_g).1
  obtain ⟨hv, hh⟩ := Prod.mk.inj (Option.some.inj hf)
  subst hv
  subst hh
  have mE : hp_n h3 ≤ hp_n h3 ∧ hp_s h3 ≤ hp_s h3 := ⟨Nat.le_refl _, Nat.le_refl _⟩
  refine ⟨by omega, fun X g K ok nmx lev hK en => ?_⟩
  refine tj_aload_n ok 0 dX10_out_0 rfl rfl ?_
  refine tj_getR (k := 4) ok fcX10 (by decide) wm_208 rfl (Or.inl ⟨_, rfl⟩) dX10_out_1 e1 ?_
  refine tj_iload_n ok 1 dX10_out_4 rfl rfl ?_
  refine tj_callV (rest := ([] : List TV).map (vl g)) (as := [.inl (a1)]) ok lev (by omega) fcX4.1 (by decide) rfl (of_if e2).1 (k3 g) (CaX.of en (by omega)) kn_X4_byteAt wm_222 wm_223 wm_224 (rs_ok (Nat.le_of_ble_eq_true rfl)) rfl rfl dX10_out_5 ?_
  exact tj_ireturn ok en dX10_out_8
def f_X10_out (a0 : Nat) (a1 : Int32) (h : AH) : Option (Int32 × AH) := b_X10_out_0  a0 a1 h
theorem c_X10_out {a0 : Nat} {a1 : Int32} {h hE : AH} {v : Int32} (hf : f_X10_out a0 a1 h = some (v, hE)) : ∀ g : GT, CM g (3) yX10_out cX10_out 2 (some .int) h [.inr (.inr (a0)), .inl (a1)] hE (some (.inl (v))) :=
  CM.ofJ (by decide) (by show _ ≤ 2; exact Nat.le_of_ble_eq_true rfl) (q_X10_out_0 hf)
/-! ===== LitmusHouse.outcomesOf(LLitmusHouse$Program;I)[I ===== -/
def b_X10_outcomesOf_12 (a0 : Nat) (a1 : Nat) (a2 : Int32) (h : AH) : Option (Nat × AH) :=
  (g_r h a0 10 5).bind fun x1 => (ok_v h x1 8).bind fun x2 => (f_X8_listOutcomes x1 a1 a2 h).bind fun q3 => (ok_v q3.2 a1 5).bind fun x4 => (f_X5_keepOutcomes a1 a2 q3.1 q3.2).bind fun h5 => some (q3.1, h5)
set_option maxHeartbeats 4000000 in
set_option maxRecDepth 100000 in
theorem q_X10_outcomesOf_12 {a0 : Nat} {a1 : Nat} {a2 : Int32} {h hE : AH} {v : Nat} (hf : b_X10_outcomesOf_12 a0 a1 a2 h = some (v, hE)) : JD cX10_outcomesOf 5 RX10 "outcomesOf" (some (.array .int)) (146) 12 [(0, .inr (.inr (a0))), (1, .inr (.inr (a1))), (2, .inl (a2))] [] h hE (some (.inr (.inr (v)))) := by
  unfold b_X10_outcomesOf_12 at hf
  obtain ⟨x1, e1, hf⟩ := bnd hf
  obtain ⟨x2, e2, hf⟩ := bnd hf
  obtain ⟨⟨x3, h3⟩, e3, hf⟩ := bnd hf
  try dsimp only at hf
  have k3 := c_X8_listOutcomes e3
  have m3 := (k3 default_g).1
  obtain ⟨x4, e4, hf⟩ := bnd hf
  obtain ⟨h5, e5, hf⟩ := bnd hf
  have k5 := c_X5_keepOutcomes e5
  have m5 := (k5 default_g).1
  obtain ⟨hv, hh⟩ := Prod.mk.inj (Option.some.inj hf)
  subst hv
  subst hh
  have mE : hp_n h5 ≤ hp_n h5 ∧ hp_s h5 ≤ hp_s h5 := ⟨Nat.le_refl _, Nat.le_refl _⟩
  refine ⟨by omega, fun X g K ok nmx lev hK en => ?_⟩
  refine tj_aload_n ok 0 dX10_outcomesOf_12 rfl rfl ?_
  refine tj_getR (k := 5) ok fcX10 (by decide) wm_212 rfl (Or.inl ⟨_, rfl⟩) dX10_outcomesOf_13 e1 ?_
  refine tj_aload_n ok 1 dX10_outcomesOf_16 rfl rfl ?_
  refine tj_iload_n ok 2 dX10_outcomesOf_17 rfl rfl ?_
  refine tj_callV (rest := ([] : List TV).map (vl g)) (as := [.inr (.inr (a1)), .inl (a2)]) ok lev (by omega) fcX8.1 (by decide) rfl (of_if e2).1 (k3 g) (CaX.of en (by omega)) kn_X8_listOutcomes wm_476 wm_477 wm_478 (rs_ok (Nat.le_of_ble_eq_true rfl)) rfl rfl dX10_outcomesOf_18 ?_
  refine tj_astore (lv' := [(0, .inr (.inr (a0))), (1, .inr (.inr (a1))), (2, .inl (a2)), (4, .inr (.inr (x3)))]) ok dX10_outcomesOf_21 (by decide) rfl ?_
  refine tj_aload_n ok 1 dX10_outcomesOf_23 rfl rfl ?_
  refine tj_iload_n ok 2 dX10_outcomesOf_24 rfl rfl ?_
  refine tj_aload ok 3 dX10_outcomesOf_25 rfl ?_
  refine tj_callV (rest := ([] : List TV).map (vl g)) (as := [.inl (a2), .inr (.inr (x3))]) ok lev (by omega) fcX5.1 (by decide) rfl (of_if e4).1 (k5 g) (CaX.of en (by omega)) kn_X5_keepOutcomes wm_479 wm_480 wm_481 (rs_ok (Nat.le_of_ble_eq_true rfl)) rfl rfl dX10_outcomesOf_27 ?_
  refine tj_aload ok 3 dX10_outcomesOf_30 rfl ?_
  exact tj_areturn ok (Or.inr ⟨_, rfl⟩) en dX10_outcomesOf_32
def b_X10_outcomesOf_10 (a3 : Nat) (h : AH) : Option (Nat × AH) :=
  some (a3, h)
set_option maxHeartbeats 4000000 in
set_option maxRecDepth 100000 in
theorem q_X10_outcomesOf_10 {a3 : Nat} {h hE : AH} {v : Nat} (hf : b_X10_outcomesOf_10 a3 h = some (v, hE)) : JD cX10_outcomesOf 5 RX10 "outcomesOf" (some (.array .int)) (146) 10 [(3, .inr (.inr (a3)))] [] h hE (some (.inr (.inr (v)))) := by
  unfold b_X10_outcomesOf_10 at hf
  obtain ⟨hv, hh⟩ := Prod.mk.inj (Option.some.inj hf)
  subst hv
  subst hh
  have mE : hp_n h ≤ hp_n h ∧ hp_s h ≤ hp_s h := ⟨Nat.le_refl _, Nat.le_refl _⟩
  refine ⟨by omega, fun X g K ok nmx lev hK en => ?_⟩
  refine tj_aload_n ok 0 dX10_outcomesOf_10 rfl rfl ?_
  exact tj_areturn ok (Or.inr ⟨_, rfl⟩) en dX10_outcomesOf_11
def b_X10_outcomesOf_0 (a0 : Nat) (a1 : Nat) (a2 : Int32) (h : AH) : Option (Nat × AH) :=
  (ok_v h a1 5).bind fun x1 => (f_X5_knownOutcomes a1 a2 h).bind fun q2 => if q2.1 = 0 then b_X10_outcomesOf_12 a0 a1 a2 q2.2 else b_X10_outcomesOf_10 q2.1 q2.2
set_option maxHeartbeats 4000000 in
set_option maxRecDepth 100000 in
theorem q_X10_outcomesOf_0 {a0 : Nat} {a1 : Nat} {a2 : Int32} {h hE : AH} {v : Nat} (hf : b_X10_outcomesOf_0 a0 a1 a2 h = some (v, hE)) : JD cX10_outcomesOf 5 RX10 "outcomesOf" (some (.array .int)) (146) 0 [(0, .inr (.inr (a0))), (1, .inr (.inr (a1))), (2, .inl (a2))] [] h hE (some (.inr (.inr (v)))) := by
  unfold b_X10_outcomesOf_0 at hf
  obtain ⟨x1, e1, hf⟩ := bnd hf
  obtain ⟨⟨x2, h2⟩, e2, hf⟩ := bnd hf
  try dsimp only at hf
  have k2 := c_X5_knownOutcomes e2
  have m2 := (k2 default_g).1
  have mE : hp_n h2 ≤ hp_n hE ∧ hp_s h2 ≤ hp_s hE := by
    by_cases hc : x2 = 0
    · rw [if_pos hc] at hf; exact (q_X10_outcomesOf_12 hf).1
    · rw [if_neg hc] at hf; exact (q_X10_outcomesOf_10 hf).1
  refine ⟨by omega, fun X g K ok nmx lev hK en => ?_⟩
  refine tj_aload_n ok 1 dX10_outcomesOf_0 rfl rfl ?_
  refine tj_iload_n ok 2 dX10_outcomesOf_1 rfl rfl ?_
  refine tj_callV (rest := ([] : List TV).map (vl g)) (as := [.inl (a2)]) ok lev (by omega) fcX5.1 (by decide) rfl (of_if e1).1 (k2 g) (CaX.of en (by omega)) kn_X5_knownOutcomes wm_482 wm_483 wm_484 (rs_ok (Nat.le_of_ble_eq_true rfl)) rfl rfl dX10_outcomesOf_2 ?_
  refine tj_astore_n (lv' := [(0, .inr (.inr (a0))), (1, .inr (.inr (a1))), (2, .inl (a2)), (3, .inr (.inr (x2)))]) ok dX10_outcomesOf_5 rfl (by decide) rfl ?_
  refine tj_aload_n ok 3 dX10_outcomesOf_6 rfl rfl ?_
  refine tj_ifnull (tgt := 12) ok dX10_outcomesOf_7 (by decide) (fun hc => ?_) (fun hc => ?_)
  · rw [if_pos hc] at hf
    refine tj_sub (lv' := [(0, .inr (.inr (a0))), (1, .inr (.inr (a1))), (2, .inl (a2))]) [0, 1, 2] rfl ?_
    exact (q_X10_outcomesOf_12 hf).2 X g K ok nmx lev hK en
  · rw [if_neg hc] at hf
    refine tj_sub (lv' := [(3, .inr (.inr (x2)))]) [3] rfl ?_
    exact (q_X10_outcomesOf_10 hf).2 X g K ok nmx lev hK en
def f_X10_outcomesOf (a0 : Nat) (a1 : Nat) (a2 : Int32) (h : AH) : Option (Nat × AH) := b_X10_outcomesOf_0  a0 a1 a2 h
theorem c_X10_outcomesOf {a0 : Nat} {a1 : Nat} {a2 : Int32} {h hE : AH} {v : Nat} (hf : f_X10_outcomesOf a0 a1 a2 h = some (v, hE)) : ∀ g : GT, CM g (146) yX10_outcomesOf cX10_outcomesOf 5 (some (.array .int)) h [.inr (.inr (a0)), .inr (.inr (a1)), .inl (a2)] hE (some (.inr (.inr (v)))) :=
  CM.ofJ (by decide) (by show _ ≤ 5; exact Nat.le_of_ble_eq_true rfl) (q_X10_outcomesOf_0 hf)
/-! ===== LitmusHouse.racesOf(LLitmusHouse$Program;)J ===== -/
def b_X10_racesOf_24 (a1 : Nat) (h : AH) : Option (Int64 × AH) :=
  (g_j h a1 5 5).bind fun x1 => some (x1, h)
set_option maxHeartbeats 4000000 in
set_option maxRecDepth 100000 in
theorem q_X10_racesOf_24 {a1 : Nat} {h hE : AH} {v : Int64} (hf : b_X10_racesOf_24 a1 h = some (v, hE)) : JD cX10_racesOf 2 RX10 "racesOf" (some .long) (146) 24 [(1, .inr (.inr (a1)))] [] h hE (some (.inr (.inl (v)))) := by
  unfold b_X10_racesOf_24 at hf
  obtain ⟨x1, e1, hf⟩ := bnd hf
  obtain ⟨hv, hh⟩ := Prod.mk.inj (Option.some.inj hf)
  subst hv
  subst hh
  have mE : hp_n h ≤ hp_n h ∧ hp_s h ≤ hp_s h := ⟨Nat.le_refl _, Nat.le_refl _⟩
  refine ⟨by omega, fun X g K ok nmx lev hK en => ?_⟩
  refine tj_aload_n ok 0 dX10_racesOf_24 rfl rfl ?_
  refine tj_getJ (k := 5) ok fcX5 (by decide) wm_487 rfl rfl dX10_racesOf_25 e1 ?_
  exact tj_lreturn ok en dX10_racesOf_28
def b_X10_racesOf_7 (a0 : Nat) (a1 : Nat) (h : AH) : Option (Int64 × AH) :=
  (g_r h a0 10 5).bind fun x1 => (ok_v h x1 8).bind fun x2 => (f_X8_findRaces x1 a1 h).bind fun q3 => (p_j q3.2 a1 5 5 q3.1).bind fun h4 => (p_z h4 a1 5 6 (1 : Int32)).bind fun h5 => b_X10_racesOf_24 a1 h5
set_option maxHeartbeats 4000000 in
set_option maxRecDepth 100000 in
theorem q_X10_racesOf_7 {a0 : Nat} {a1 : Nat} {h hE : AH} {v : Int64} (hf : b_X10_racesOf_7 a0 a1 h = some (v, hE)) : JD cX10_racesOf 2 RX10 "racesOf" (some .long) (146) 7 [(0, .inr (.inr (a0))), (1, .inr (.inr (a1)))] [] h hE (some (.inr (.inl (v)))) := by
  unfold b_X10_racesOf_7 at hf
  obtain ⟨x1, e1, hf⟩ := bnd hf
  obtain ⟨x2, e2, hf⟩ := bnd hf
  obtain ⟨⟨x3, h3⟩, e3, hf⟩ := bnd hf
  try dsimp only at hf
  have k3 := c_X8_findRaces e3
  have m3 := (k3 default_g).1
  obtain ⟨h4, e4, hf⟩ := bnd hf
  have m4 := nn_pj e4
  obtain ⟨h5, e5, hf⟩ := bnd hf
  have m5 := nn_pz e5
  have J := q_X10_racesOf_24 hf
  have mE := J.1
  refine ⟨by omega, fun X g K ok nmx lev hK en => ?_⟩
  refine tj_aload_n ok 1 dX10_racesOf_7 rfl rfl ?_
  refine tj_aload_n ok 0 dX10_racesOf_8 rfl rfl ?_
  refine tj_getR (k := 5) ok fcX10 (by decide) wm_212 rfl (Or.inl ⟨_, rfl⟩) dX10_racesOf_9 e1 ?_
  refine tj_aload_n ok 1 dX10_racesOf_12 rfl rfl ?_
  refine tj_callV (rest := ([.inr (.inr (a1))] : List TV).map (vl g)) (as := [.inr (.inr (a1))]) ok lev (by omega) fcX8.1 (by decide) rfl (of_if e2).1 (k3 g) (CaX.of en (by omega)) kn_X8_findRaces wm_488 wm_489 wm_490 (rs_ok (Nat.le_of_ble_eq_true rfl)) rfl rfl dX10_racesOf_13 ?_
  refine tj_putJ (k := 5) ok fcX5 (by decide) wm_487 rfl (Or.inl rfl) rfl dX10_racesOf_16 e4 ?_
  refine tj_aload_n ok 1 dX10_racesOf_19 rfl rfl ?_
  refine tj_iconst (v := 1) ok dX10_racesOf_20 (by decide) ?_
  refine tj_putZ (k := 6) ok fcX5 (by decide) wm_491 rfl (Or.inl rfl) rfl dX10_racesOf_21 e5 ?_
  refine tj_sub (lv' := [(1, .inr (.inr (a1)))]) [1] rfl ?_
  exact J.2 X g K ok nmx lev hK en
def b_X10_racesOf_0 (a0 : Nat) (a1 : Nat) (h : AH) : Option (Int64 × AH) :=
  (g_i h a1 5 6).bind fun x1 => if x1 = 0 then b_X10_racesOf_7 a0 a1 h else b_X10_racesOf_24 a1 h
set_option maxHeartbeats 4000000 in
set_option maxRecDepth 100000 in
theorem q_X10_racesOf_0 {a0 : Nat} {a1 : Nat} {h hE : AH} {v : Int64} (hf : b_X10_racesOf_0 a0 a1 h = some (v, hE)) : JD cX10_racesOf 2 RX10 "racesOf" (some .long) (146) 0 [(0, .inr (.inr (a0))), (1, .inr (.inr (a1)))] [] h hE (some (.inr (.inl (v)))) := by
  unfold b_X10_racesOf_0 at hf
  obtain ⟨x1, e1, hf⟩ := bnd hf
  have mE : hp_n h ≤ hp_n hE ∧ hp_s h ≤ hp_s hE := by
    by_cases hc : x1 = 0
    · rw [if_pos hc] at hf; exact (q_X10_racesOf_7 hf).1
    · rw [if_neg hc] at hf; exact (q_X10_racesOf_24 hf).1
  refine ⟨by omega, fun X g K ok nmx lev hK en => ?_⟩
  refine tj_aload_n ok 1 dX10_racesOf_0 rfl rfl ?_
  refine tj_getI (k := 6) ok fcX5 (by decide) wm_491 rfl (Or.inr rfl) dX10_racesOf_1 e1 ?_
  refine tj_if_ne (tgt := 24) ok dX10_racesOf_4 (by decide) (fun hc => ?_) (fun hc => ?_)
  · rw [if_neg hc] at hf
    refine tj_sub (lv' := [(1, .inr (.inr (a1)))]) [1] rfl ?_
    exact (q_X10_racesOf_24 hf).2 X g K ok nmx lev hK en
  · rw [if_pos hc] at hf
    exact (q_X10_racesOf_7 hf).2 X g K ok nmx lev hK en
def f_X10_racesOf (a0 : Nat) (a1 : Nat) (h : AH) : Option (Int64 × AH) := b_X10_racesOf_0  a0 a1 h
theorem c_X10_racesOf {a0 : Nat} {a1 : Nat} {h hE : AH} {v : Int64} (hf : f_X10_racesOf a0 a1 h = some (v, hE)) : ∀ g : GT, CM g (146) yX10_racesOf cX10_racesOf 2 (some .long) h [.inr (.inr (a0)), .inr (.inr (a1))] hE (some (.inr (.inl (v)))) :=
  CM.ofJ (by decide) (by show _ ≤ 2; exact Nat.le_of_ble_eq_true rfl) (q_X10_racesOf_0 hf)
/-! ===== LitmusHouse.step(I)I ===== -/
def b_X10_step_0 (a0 : Nat) (a1 : Int32) (h : AH) : Option (Int32 × AH) :=
  (g_r h a0 10 5).bind fun x1 => (ok_v h x1 8).bind fun x2 => (f_X8_witnessThread x1 a1 h).bind fun q3 => some (q3.1, q3.2)
set_option maxHeartbeats 4000000 in
set_option maxRecDepth 100000 in
theorem q_X10_step_0 {a0 : Nat} {a1 : Int32} {h hE : AH} {v : Int32} (hf : b_X10_step_0 a0 a1 h = some (v, hE)) : JD cX10_step 2 RX10 "step" (some .int) (3) 0 [(0, .inr (.inr (a0))), (1, .inl (a1))] [] h hE (some (.inl (v))) := by
  unfold b_X10_step_0 at hf
  obtain ⟨x1, e1, hf⟩ := bnd hf
  obtain ⟨x2, e2, hf⟩ := bnd hf
  obtain ⟨⟨x3, h3⟩, e3, hf⟩ := bnd hf
  try dsimp only at hf
  have k3 := c_X8_witnessThread e3
  have m3 := (k3 default_g).1
  obtain ⟨hv, hh⟩ := Prod.mk.inj (Option.some.inj hf)
  subst hv
  subst hh
  have mE : hp_n h3 ≤ hp_n h3 ∧ hp_s h3 ≤ hp_s h3 := ⟨Nat.le_refl _, Nat.le_refl _⟩
  refine ⟨by omega, fun X g K ok nmx lev hK en => ?_⟩
  refine tj_aload_n ok 0 dX10_step_0 rfl rfl ?_
  refine tj_getR (k := 5) ok fcX10 (by decide) wm_212 rfl (Or.inl ⟨_, rfl⟩) dX10_step_1 e1 ?_
  refine tj_iload_n ok 1 dX10_step_4 rfl rfl ?_
  refine tj_callV (rest := ([] : List TV).map (vl g)) (as := [.inl (a1)]) ok lev (by omega) fcX8.1 (by decide) rfl (of_if e2).1 (k3 g) (CaX.of en (by omega)) kn_X8_witnessThread wm_494 wm_495 wm_496 (rs_ok (Nat.le_of_ble_eq_true rfl)) rfl rfl dX10_step_5 ?_
  exact tj_ireturn ok en dX10_step_8
def f_X10_step (a0 : Nat) (a1 : Int32) (h : AH) : Option (Int32 × AH) := b_X10_step_0  a0 a1 h
theorem c_X10_step {a0 : Nat} {a1 : Int32} {h hE : AH} {v : Int32} (hf : f_X10_step a0 a1 h = some (v, hE)) : ∀ g : GT, CM g (3) yX10_step cX10_step 2 (some .int) h [.inr (.inr (a0)), .inl (a1)] hE (some (.inl (v))) :=
  CM.ofJ (by decide) (by show _ ≤ 2; exact Nat.le_of_ble_eq_true rfl) (q_X10_step_0 hf)
/-! ===== LitmusHouse.take()I ===== -/
def b_X10_take_47 (a0 : Nat) (h : AH) : Option (Int32 × AH) :=
  (g_i h a0 10 7).bind fun x1 => some (x1, h)
set_option maxHeartbeats 4000000 in
set_option maxRecDepth 100000 in
theorem q_X10_take_47 {a0 : Nat} {h hE : AH} {v : Int32} (hf : b_X10_take_47 a0 h = some (v, hE)) : JD cX10_take 2 RX10 "take" (some .int) (3) 47 [(0, .inr (.inr (a0)))] [] h hE (some (.inl (v))) := by
  unfold b_X10_take_47 at hf
  obtain ⟨x1, e1, hf⟩ := bnd hf
  obtain ⟨hv, hh⟩ := Prod.mk.inj (Option.some.inj hf)
  subst hv
  subst hh
  have mE : hp_n h ≤ hp_n h ∧ hp_s h ≤ hp_s h := ⟨Nat.le_refl _, Nat.le_refl _⟩
  refine ⟨by omega, fun X g K ok nmx lev hK en => ?_⟩
  refine tj_aload_n ok 0 dX10_take_47 rfl rfl ?_
  refine tj_getI (k := 7) ok fcX10 (by decide) wm_91 rfl (Or.inl rfl) dX10_take_48 e1 ?_
  exact tj_ireturn ok en dX10_take_51
def b_X10_take_27 (r19 : Nat → Int32 → AH → Option (Int32 × AH)) (a0 : Nat) (a1 : Int32) (h : AH) : Option (Int32 × AH) :=
  (g_r h a0 10 0).bind fun x1 => (g_r h a0 10 4).bind fun x2 => (ok_v h x2 4).bind fun x3 => (f_X4_byteAt x2 a1 h).bind fun q4 => (s_i q4.2 x1 a1 q4.1).bind fun h5 => r19 a0 (a1 + (1 : Int32)) h5
set_option maxHeartbeats 4000000 in
set_option maxRecDepth 100000 in
theorem q_X10_take_27 {hE : AH} {v : Int32} {r19 : Nat → Int32 → AH → Option (Int32 × AH)} (hr19 : ∀ (b0 : Nat) (b1 : Int32) (h : AH), r19 b0 b1 h = some (v, hE) → JD cX10_take 2 RX10 "take" (some .int) (3) 19 [(0, .inr (.inr (b0))), (1, .inl (b1))] [] h hE (some (.inl (v)))) {a0 : Nat} {a1 : Int32} {h : AH} (hf : b_X10_take_27 r19 a0 a1 h = some (v, hE)) : JD cX10_take 2 RX10 "take" (some .int) (3) 27 [(0, .inr (.inr (a0))), (1, .inl (a1))] [] h hE (some (.inl (v))) := by
  unfold b_X10_take_27 at hf
  obtain ⟨x1, e1, hf⟩ := bnd hf
  obtain ⟨x2, e2, hf⟩ := bnd hf
  obtain ⟨x3, e3, hf⟩ := bnd hf
  obtain ⟨⟨x4, h4⟩, e4, hf⟩ := bnd hf
  try dsimp only at hf
  have k4 := c_X4_byteAt e4
  have m4 := (k4 default_g).1
  obtain ⟨h5, e5, hf⟩ := bnd hf
  have m5 := nn_si e5
  have J := hr19 _ _ _ hf
  have mE := J.1
  refine ⟨by omega, fun X g K ok nmx lev hK en => ?_⟩
  refine tj_aload_n ok 0 dX10_take_27 rfl rfl ?_
  refine tj_getR (k := 0) ok fcX10 (by decide) wm_96 rfl (Or.inr ⟨_, rfl⟩) dX10_take_28 e1 ?_
  refine tj_iload_n ok 1 dX10_take_31 rfl rfl ?_
  refine tj_aload_n ok 0 dX10_take_32 rfl rfl ?_
  refine tj_getR (k := 4) ok fcX10 (by decide) wm_208 rfl (Or.inl ⟨_, rfl⟩) dX10_take_33 e2 ?_
  refine tj_iload_n ok 1 dX10_take_36 rfl rfl ?_
  refine tj_callV (rest := ([.inl (a1), .inr (.inr (x1))] : List TV).map (vl g)) (as := [.inl (a1)]) ok lev (by omega) fcX4.1 (by decide) rfl (of_if e3).1 (k4 g) (CaX.of en (by omega)) kn_X4_byteAt wm_222 wm_223 wm_224 (rs_ok (Nat.le_of_ble_eq_true rfl)) rfl rfl dX10_take_37 ?_
  refine tj_iastore ok dX10_take_40 e5 ?_
  refine tj_iinc (lv' := [(0, .inr (.inr (a0))), (1, .inl (a1 + (1 : Int32)))]) ok 1 dX10_take_41 rfl (rfl) (by decide) rfl ?_
  refine tj_goto (tgt := 19) ok dX10_take_44 (by decide) ?_
  exact J.2 X g K ok nmx lev hK en
def b_X10_take_19 (r19 : Nat → Int32 → AH → Option (Int32 × AH)) (a0 : Nat) (a1 : Int32) (h : AH) : Option (Int32 × AH) :=
  (g_i h a0 10 7).bind fun x1 => if x1 ≤ a1 then b_X10_take_47 a0 h else b_X10_take_27 r19 a0 a1 h
set_option maxHeartbeats 4000000 in
set_option maxRecDepth 100000 in
theorem q_X10_take_19 {hE : AH} {v : Int32} {r19 : Nat → Int32 → AH → Option (Int32 × AH)} (hr19 : ∀ (b0 : Nat) (b1 : Int32) (h : AH), r19 b0 b1 h = some (v, hE) → JD cX10_take 2 RX10 "take" (some .int) (3) 19 [(0, .inr (.inr (b0))), (1, .inl (b1))] [] h hE (some (.inl (v)))) {a0 : Nat} {a1 : Int32} {h : AH} (hf : b_X10_take_19 r19 a0 a1 h = some (v, hE)) : JD cX10_take 2 RX10 "take" (some .int) (3) 19 [(0, .inr (.inr (a0))), (1, .inl (a1))] [] h hE (some (.inl (v))) := by
  unfold b_X10_take_19 at hf
  obtain ⟨x1, e1, hf⟩ := bnd hf
  have mE : hp_n h ≤ hp_n hE ∧ hp_s h ≤ hp_s hE := by
    by_cases hc : x1 ≤ a1
    · rw [if_pos hc] at hf; exact (q_X10_take_47 hf).1
    · rw [if_neg hc] at hf; exact (q_X10_take_27 hr19 hf).1
  refine ⟨by omega, fun X g K ok nmx lev hK en => ?_⟩
  refine tj_iload_n ok 1 dX10_take_19 rfl rfl ?_
  refine tj_aload_n ok 0 dX10_take_20 rfl rfl ?_
  refine tj_getI (k := 7) ok fcX10 (by decide) wm_91 rfl (Or.inl rfl) dX10_take_21 e1 ?_
  refine tj_icmp_ge (tgt := 47) ok dX10_take_24 (by decide) (fun hc => ?_) (fun hc => ?_)
  · rw [if_pos hc] at hf
    refine tj_sub (lv' := [(0, .inr (.inr (a0)))]) [0] rfl ?_
    exact (q_X10_take_47 hf).2 X g K ok nmx lev hK en
  · rw [if_neg hc] at hf
    exact (q_X10_take_27 hr19 hf).2 X g K ok nmx lev hK en
def l_X10_take_19 : Nat → Nat → Int32 → AH → Option (Int32 × AH)
  | 0 => fun _ _ _ => none
  | n + 1 => fun a0 a1 h => b_X10_take_19 (l_X10_take_19 n) a0 a1 h
theorem ql_X10_take_19 {n : Nat} {a0 : Nat} {a1 : Int32} {h hE : AH} {v : Int32} (hf : l_X10_take_19 n a0 a1 h = some (v, hE)) : JD cX10_take 2 RX10 "take" (some .int) (3) 19 [(0, .inr (.inr (a0))), (1, .inl (a1))] [] h hE (some (.inl (v))) := by
  induction n generalizing a0 a1 h with
  | zero => cases hf
  | succ n ih => exact q_X10_take_19 (fun _ _ _ hf => ih hf) hf
def b_X10_take_0 (a0 : Nat) (h : AH) : Option (Int32 × AH) :=
  (g_r h a0 10 4).bind fun x1 => (g_i h x1 4 0).bind fun x2 => (p_i h a0 10 7 (mn_i x2 (1000 : Int32))).bind fun h3 => l_X10_take_19 fu_ a0 (0 : Int32) h3
set_option maxHeartbeats 4000000 in
set_option maxRecDepth 100000 in
theorem q_X10_take_0 {a0 : Nat} {h hE : AH} {v : Int32} (hf : b_X10_take_0 a0 h = some (v, hE)) : JD cX10_take 2 RX10 "take" (some .int) (3) 0 [(0, .inr (.inr (a0)))] [] h hE (some (.inl (v))) := by
  unfold b_X10_take_0 at hf
  obtain ⟨x1, e1, hf⟩ := bnd hf
  obtain ⟨x2, e2, hf⟩ := bnd hf
  obtain ⟨h3, e3, hf⟩ := bnd hf
  have m3 := nn_pi e3
  have J := ql_X10_take_19 hf
  have mE := J.1
  refine ⟨by omega, fun X g K ok nmx lev hK en => ?_⟩
  refine tj_aload_n ok 0 dX10_take_0 rfl rfl ?_
  refine tj_aload_n ok 0 dX10_take_1 rfl rfl ?_
  refine tj_getR (k := 4) ok fcX10 (by decide) wm_208 rfl (Or.inl ⟨_, rfl⟩) dX10_take_2 e1 ?_
  refine tj_getI (k := 0) ok fcX4 (by decide) wm_498 rfl (Or.inl rfl) dX10_take_5 e2 ?_
  refine tj_sipush (v := 1000) ok dX10_take_8 (by decide) ?_
  refine tj_min (rest := ([.inr (.inr (a0))] : List TV).map (vl g)) ok lev (by omega) (CaX.of en (by omega)) wm_499 wm_41 wm_42 wm_43 (rs_ok (Nat.le_of_ble_eq_true rfl)) dX10_take_11 ?_
  refine tj_putI (k := 7) ok fcX10 (by decide) wm_91 rfl (Or.inl rfl) rfl dX10_take_14 e3 ?_
  refine tj_iconst (v := 0) ok dX10_take_17 (by decide) ?_
  refine tj_istore_n (lv' := [(0, .inr (.inr (a0))), (1, .inl ((0 : Int32)))]) ok dX10_take_18 rfl (by decide) rfl ?_
  exact J.2 X g K ok nmx lev hK en
def f_X10_take (a0 : Nat) (h : AH) : Option (Int32 × AH) := b_X10_take_0  a0 h
theorem c_X10_take {a0 : Nat} {h hE : AH} {v : Int32} (hf : f_X10_take a0 h = some (v, hE)) : ∀ g : GT, CM g (3) yX10_take cX10_take 2 (some .int) h [.inr (.inr (a0))] hE (some (.inl (v))) :=
  CM.ofJ (by decide) (by show _ ≤ 2; exact Nat.le_of_ble_eq_true rfl) (q_X10_take_0 hf)
/-! ===== LitmusHouse.wish(II)Z ===== -/
def b_X10_wish_20  (h : AH) : Option (Int32 × AH) :=
  ok_z (0 : Int32) h
set_option maxHeartbeats 4000000 in
set_option maxRecDepth 100000 in
theorem q_X10_wish_20 {h hE : AH} {v : Int32} (hf : b_X10_wish_20  h = some (v, hE)) : JD cX10_wish 3 RX10 "wish" (some .boolean) (2) 20 [] [] h hE (some (.inl (v))) := by
  unfold b_X10_wish_20 at hf
  have mE : hp_n h ≤ hp_n hE ∧ hp_s h ≤ hp_s hE := by obtain ⟨-, q⟩ := of_if hf; cases q; exact ⟨Nat.le_refl _, Nat.le_refl _⟩
  refine ⟨by omega, fun X g K ok nmx lev hK en => ?_⟩
  refine tj_iconst (v := 0) ok dX10_wish_20 (by decide) ?_
  exact tj_zreturn ok hf en dX10_wish_21
def b_X10_wish_22 (a0 : Nat) (a1 : Int32) (a2 : Int32) (h : AH) : Option (Int32 × AH) :=
  (g_r h a0 10 2).bind fun x1 => (s_i h x1 a1 a2).bind fun h2 => ok_z (1 : Int32) h2
set_option maxHeartbeats 4000000 in
set_option maxRecDepth 100000 in
theorem q_X10_wish_22 {a0 : Nat} {a1 : Int32} {a2 : Int32} {h hE : AH} {v : Int32} (hf : b_X10_wish_22 a0 a1 a2 h = some (v, hE)) : JD cX10_wish 3 RX10 "wish" (some .boolean) (2) 22 [(0, .inr (.inr (a0))), (1, .inl (a1)), (2, .inl (a2))] [] h hE (some (.inl (v))) := by
  unfold b_X10_wish_22 at hf
  obtain ⟨x1, e1, hf⟩ := bnd hf
  obtain ⟨h2, e2, hf⟩ := bnd hf
  have m2 := nn_si e2
  have mE : hp_n h2 ≤ hp_n hE ∧ hp_s h2 ≤ hp_s hE := by obtain ⟨-, q⟩ := of_if hf; cases q; exact ⟨Nat.le_refl _, Nat.le_refl _⟩
  refine ⟨by omega, fun X g K ok nmx lev hK en => ?_⟩
  refine tj_aload_n ok 0 dX10_wish_22 rfl rfl ?_
  refine tj_getR (k := 2) ok fcX10 (by decide) wm_200 rfl (Or.inr ⟨_, rfl⟩) dX10_wish_23 e1 ?_
  refine tj_iload_n ok 1 dX10_wish_26 rfl rfl ?_
  refine tj_iload_n ok 2 dX10_wish_27 rfl rfl ?_
  refine tj_iastore ok dX10_wish_28 e2 ?_
  refine tj_iconst (v := 1) ok dX10_wish_29 (by decide) ?_
  exact tj_zreturn ok hf en dX10_wish_30
def b_X10_wish_14 (a0 : Nat) (a1 : Int32) (a2 : Int32) (h : AH) : Option (Int32 × AH) :=
  if a2 ≤ (9 : Int32) then b_X10_wish_22 a0 a1 a2 h else b_X10_wish_20 h
set_option maxHeartbeats 4000000 in
set_option maxRecDepth 100000 in
theorem q_X10_wish_14 {a0 : Nat} {a1 : Int32} {a2 : Int32} {h hE : AH} {v : Int32} (hf : b_X10_wish_14 a0 a1 a2 h = some (v, hE)) : JD cX10_wish 3 RX10 "wish" (some .boolean) (2) 14 [(0, .inr (.inr (a0))), (1, .inl (a1)), (2, .inl (a2))] [] h hE (some (.inl (v))) := by
  unfold b_X10_wish_14 at hf
  have mE : hp_n h ≤ hp_n hE ∧ hp_s h ≤ hp_s hE := by
    by_cases hc : a2 ≤ (9 : Int32)
    · rw [if_pos hc] at hf; exact (q_X10_wish_22 hf).1
    · rw [if_neg hc] at hf; exact (q_X10_wish_20 hf).1
  refine ⟨by omega, fun X g K ok nmx lev hK en => ?_⟩
  refine tj_iload_n ok 2 dX10_wish_14 rfl rfl ?_
  refine tj_bipush (v := 9) ok dX10_wish_15 (by decide) ?_
  refine tj_icmp_le (tgt := 22) ok dX10_wish_17 (by decide) (fun hc => ?_) (fun hc => ?_)
  · rw [if_pos hc] at hf
    exact (q_X10_wish_22 hf).2 X g K ok nmx lev hK en
  · rw [if_neg hc] at hf
    refine tj_sub (lv' := []) [] rfl ?_
    exact (q_X10_wish_20 hf).2 X g K ok nmx lev hK en
def b_X10_wish_9 (a0 : Nat) (a1 : Int32) (a2 : Int32) (h : AH) : Option (Int32 × AH) :=
  if a2 < (-1 : Int32) then b_X10_wish_20 h else b_X10_wish_14 a0 a1 a2 h
set_option maxHeartbeats 4000000 in
set_option maxRecDepth 100000 in
theorem q_X10_wish_9 {a0 : Nat} {a1 : Int32} {a2 : Int32} {h hE : AH} {v : Int32} (hf : b_X10_wish_9 a0 a1 a2 h = some (v, hE)) : JD cX10_wish 3 RX10 "wish" (some .boolean) (2) 9 [(0, .inr (.inr (a0))), (1, .inl (a1)), (2, .inl (a2))] [] h hE (some (.inl (v))) := by
  unfold b_X10_wish_9 at hf
  have mE : hp_n h ≤ hp_n hE ∧ hp_s h ≤ hp_s hE := by
    by_cases hc : a2 < (-1 : Int32)
    · rw [if_pos hc] at hf; exact (q_X10_wish_20 hf).1
    · rw [if_neg hc] at hf; exact (q_X10_wish_14 hf).1
  refine ⟨by omega, fun X g K ok nmx lev hK en => ?_⟩
  refine tj_iload_n ok 2 dX10_wish_9 rfl rfl ?_
  refine tj_iconst (v := -1) ok dX10_wish_10 (by decide) ?_
  refine tj_icmp_lt (tgt := 20) ok dX10_wish_11 (by decide) (fun hc => ?_) (fun hc => ?_)
  · rw [if_pos hc] at hf
    refine tj_sub (lv' := []) [] rfl ?_
    exact (q_X10_wish_20 hf).2 X g K ok nmx lev hK en
  · rw [if_neg hc] at hf
    exact (q_X10_wish_14 hf).2 X g K ok nmx lev hK en
def b_X10_wish_4 (a0 : Nat) (a1 : Int32) (a2 : Int32) (h : AH) : Option (Int32 × AH) :=
  if (5 : Int32) ≤ a1 then b_X10_wish_20 h else b_X10_wish_9 a0 a1 a2 h
set_option maxHeartbeats 4000000 in
set_option maxRecDepth 100000 in
theorem q_X10_wish_4 {a0 : Nat} {a1 : Int32} {a2 : Int32} {h hE : AH} {v : Int32} (hf : b_X10_wish_4 a0 a1 a2 h = some (v, hE)) : JD cX10_wish 3 RX10 "wish" (some .boolean) (2) 4 [(0, .inr (.inr (a0))), (1, .inl (a1)), (2, .inl (a2))] [] h hE (some (.inl (v))) := by
  unfold b_X10_wish_4 at hf
  have mE : hp_n h ≤ hp_n hE ∧ hp_s h ≤ hp_s hE := by
    by_cases hc : (5 : Int32) ≤ a1
    · rw [if_pos hc] at hf; exact (q_X10_wish_20 hf).1
    · rw [if_neg hc] at hf; exact (q_X10_wish_9 hf).1
  refine ⟨by omega, fun X g K ok nmx lev hK en => ?_⟩
  refine tj_iload_n ok 1 dX10_wish_4 rfl rfl ?_
  refine tj_iconst (v := 5) ok dX10_wish_5 (by decide) ?_
  refine tj_icmp_ge (tgt := 20) ok dX10_wish_6 (by decide) (fun hc => ?_) (fun hc => ?_)
  · rw [if_pos hc] at hf
    refine tj_sub (lv' := []) [] rfl ?_
    exact (q_X10_wish_20 hf).2 X g K ok nmx lev hK en
  · rw [if_neg hc] at hf
    exact (q_X10_wish_9 hf).2 X g K ok nmx lev hK en
def b_X10_wish_0 (a0 : Nat) (a1 : Int32) (a2 : Int32) (h : AH) : Option (Int32 × AH) :=
  if a1 < 0 then b_X10_wish_20 h else b_X10_wish_4 a0 a1 a2 h
set_option maxHeartbeats 4000000 in
set_option maxRecDepth 100000 in
theorem q_X10_wish_0 {a0 : Nat} {a1 : Int32} {a2 : Int32} {h hE : AH} {v : Int32} (hf : b_X10_wish_0 a0 a1 a2 h = some (v, hE)) : JD cX10_wish 3 RX10 "wish" (some .boolean) (2) 0 [(0, .inr (.inr (a0))), (1, .inl (a1)), (2, .inl (a2))] [] h hE (some (.inl (v))) := by
  unfold b_X10_wish_0 at hf
  have mE : hp_n h ≤ hp_n hE ∧ hp_s h ≤ hp_s hE := by
    by_cases hc : a1 < 0
    · rw [if_pos hc] at hf; exact (q_X10_wish_20 hf).1
    · rw [if_neg hc] at hf; exact (q_X10_wish_4 hf).1
  refine ⟨by omega, fun X g K ok nmx lev hK en => ?_⟩
  refine tj_iload_n ok 1 dX10_wish_0 rfl rfl ?_
  refine tj_if_lt (tgt := 20) ok dX10_wish_1 (by decide) (fun hc => ?_) (fun hc => ?_)
  · rw [if_pos hc] at hf
    refine tj_sub (lv' := []) [] rfl ?_
    exact (q_X10_wish_20 hf).2 X g K ok nmx lev hK en
  · rw [if_neg hc] at hf
    exact (q_X10_wish_4 hf).2 X g K ok nmx lev hK en
def f_X10_wish (a0 : Nat) (a1 : Int32) (a2 : Int32) (h : AH) : Option (Int32 × AH) := b_X10_wish_0  a0 a1 a2 h
theorem c_X10_wish {a0 : Nat} {a1 : Int32} {a2 : Int32} {h hE : AH} {v : Int32} (hf : f_X10_wish a0 a1 a2 h = some (v, hE)) : ∀ g : GT, CM g (2) yX10_wish cX10_wish 3 (some .boolean) h [.inr (.inr (a0)), .inl (a1), .inl (a2)] hE (some (.inl (v))) :=
  CM.ofJ (by decide) (by show _ ≤ 3; exact Nat.le_of_ble_eq_true rfl) (q_X10_wish_0 hf)
