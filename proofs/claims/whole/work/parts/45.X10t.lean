theorem dX10_demandPlace_0 : decode cX10_demandPlace 0 = .ok (.iload_n 0, 1) := by decide +kernel
theorem dX10_demandPlace_1 : decode cX10_demandPlace 1 = .ok (.ifCond .lt 9, 3) := by decide +kernel
theorem dX10_demandPlace_4 : decode cX10_demandPlace 4 = .ok (.iload_n 0, 1) := by decide +kernel
theorem dX10_demandPlace_5 : decode cX10_demandPlace 5 = .ok (.bipush 8, 2) := by decide +kernel
theorem dX10_demandPlace_7 : decode cX10_demandPlace 7 = .ok (.if_icmp .lt 13, 3) := by decide +kernel
theorem dX10_demandPlace_10 : decode cX10_demandPlace 10 = .ok (.new 214, 3) := by decide +kernel
theorem dX10_demandPlace_13 : decode cX10_demandPlace 13 = .ok (.dup, 1) := by decide +kernel
theorem dX10_demandPlace_14 : decode cX10_demandPlace 14 = .ok (.ldc 216, 2) := by decide +kernel
theorem dX10_demandPlace_16 : decode cX10_demandPlace 16 = .ok (.invokespecial 218, 3) := by decide +kernel
theorem dX10_demandPlace_19 : decode cX10_demandPlace 19 = .ok (.athrow, 1) := by decide +kernel
theorem dX10_demandPlace_20 : decode cX10_demandPlace 20 = .ok (.return_, 1) := by decide +kernel
theorem dX10_programAt_0 : decode cX10_programAt 0 = .ok (.iload_n 1, 1) := by decide +kernel
theorem dX10_programAt_1 : decode cX10_programAt 1 = .ok (.invokestatic 70, 3) := by decide +kernel
theorem dX10_programAt_4 : decode cX10_programAt 4 = .ok (.aload_n 0, 1) := by decide +kernel
theorem dX10_programAt_5 : decode cX10_programAt 5 = .ok (.getfield 15, 3) := by decide +kernel
theorem dX10_programAt_8 : decode cX10_programAt 8 = .ok (.iload_n 1, 1) := by decide +kernel
theorem dX10_programAt_9 : decode cX10_programAt 9 = .ok (.aaload, 1) := by decide +kernel
theorem dX10_programAt_10 : decode cX10_programAt 10 = .ok (.astore_n 2, 1) := by decide +kernel
theorem dX10_programAt_11 : decode cX10_programAt 11 = .ok (.aload_n 2, 1) := by decide +kernel
theorem dX10_programAt_12 : decode cX10_programAt 12 = .ok (.ifnonnull 13, 3) := by decide +kernel
theorem dX10_programAt_15 : decode cX10_programAt 15 = .ok (.new 221, 3) := by decide +kernel
theorem dX10_programAt_18 : decode cX10_programAt 18 = .ok (.dup, 1) := by decide +kernel
theorem dX10_programAt_19 : decode cX10_programAt 19 = .ok (.ldc 223, 2) := by decide +kernel
theorem dX10_programAt_21 : decode cX10_programAt 21 = .ok (.invokespecial 225, 3) := by decide +kernel
theorem dX10_programAt_24 : decode cX10_programAt 24 = .ok (.athrow, 1) := by decide +kernel
theorem dX10_programAt_25 : decode cX10_programAt 25 = .ok (.aload_n 2, 1) := by decide +kernel
theorem dX10_programAt_26 : decode cX10_programAt 26 = .ok (.areturn, 1) := by decide +kernel
theorem dX10_action_0 : decode cX10_action 0 = .ok (.aload_n 0, 1) := by decide +kernel
theorem dX10_action_1 : decode cX10_action 1 = .ok (.iload_n 1, 1) := by decide +kernel
theorem dX10_action_2 : decode cX10_action 2 = .ok (.invokevirtual 88, 3) := by decide +kernel
theorem dX10_action_5 : decode cX10_action 5 = .ok (.getfield 79, 3) := by decide +kernel
theorem dX10_action_8 : decode cX10_action 8 = .ok (.astore 4, 2) := by decide +kernel
theorem dX10_action_10 : decode cX10_action 10 = .ok (.iload_n 2, 1) := by decide +kernel
theorem dX10_action_11 : decode cX10_action 11 = .ok (.ifCond .lt 18, 3) := by decide +kernel
theorem dX10_action_14 : decode cX10_action 14 = .ok (.iload_n 2, 1) := by decide +kernel
theorem dX10_action_15 : decode cX10_action 15 = .ok (.aload 4, 2) := by decide +kernel
theorem dX10_action_17 : decode cX10_action 17 = .ok (.getfield 83, 3) := by decide +kernel
theorem dX10_action_20 : decode cX10_action 20 = .ok (.if_icmp .ge 9, 3) := by decide +kernel
theorem dX10_action_23 : decode cX10_action 23 = .ok (.iload_n 2, 1) := by decide +kernel
theorem dX10_action_24 : decode cX10_action 24 = .ok (.bipush 8, 2) := by decide +kernel
theorem dX10_action_26 : decode cX10_action 26 = .ok (.if_icmp .lt 5, 3) := by decide +kernel
theorem dX10_action_29 : decode cX10_action 29 = .ok (.iconst (-1), 1) := by decide +kernel
theorem dX10_action_30 : decode cX10_action 30 = .ok (.ireturn, 1) := by decide +kernel
theorem dX10_action_31 : decode cX10_action 31 = .ok (.aload 4, 2) := by decide +kernel
theorem dX10_action_33 : decode cX10_action 33 = .ok (.getfield 120, 3) := by decide +kernel
theorem dX10_action_36 : decode cX10_action 36 = .ok (.iload_n 2, 1) := by decide +kernel
theorem dX10_action_37 : decode cX10_action 37 = .ok (.iaload, 1) := by decide +kernel
theorem dX10_action_38 : decode cX10_action 38 = .ok (.bipush 63, 2) := by decide +kernel
theorem dX10_action_40 : decode cX10_action 40 = .ok (.iand, 1) := by decide +kernel
theorem dX10_action_41 : decode cX10_action 41 = .ok (.istore 5, 2) := by decide +kernel
theorem dX10_action_43 : decode cX10_action 43 = .ok (.iload_n 3, 1) := by decide +kernel
theorem dX10_action_44 : decode cX10_action 44 = .ok (.tableswitch 67 0 3 #[32, 40, 49, 58], 32) := by decide +kernel
theorem dX10_action_76 : decode cX10_action 76 = .ok (.aload 4, 2) := by decide +kernel
theorem dX10_action_78 : decode cX10_action 78 = .ok (.getfield 123, 3) := by decide +kernel
theorem dX10_action_81 : decode cX10_action 81 = .ok (.iload_n 2, 1) := by decide +kernel
theorem dX10_action_82 : decode cX10_action 82 = .ok (.iaload, 1) := by decide +kernel
theorem dX10_action_83 : decode cX10_action 83 = .ok (.ireturn, 1) := by decide +kernel
theorem dX10_action_84 : decode cX10_action 84 = .ok (.aload 4, 2) := by decide +kernel
theorem dX10_action_86 : decode cX10_action 86 = .ok (.getfield 126, 3) := by decide +kernel
theorem dX10_action_89 : decode cX10_action 89 = .ok (.iload 5, 2) := by decide +kernel
theorem dX10_action_91 : decode cX10_action 91 = .ok (.iaload, 1) := by decide +kernel
theorem dX10_action_92 : decode cX10_action 92 = .ok (.ireturn, 1) := by decide +kernel
theorem dX10_action_93 : decode cX10_action 93 = .ok (.aload 4, 2) := by decide +kernel
theorem dX10_action_95 : decode cX10_action 95 = .ok (.getfield 129, 3) := by decide +kernel
theorem dX10_action_98 : decode cX10_action 98 = .ok (.iload 5, 2) := by decide +kernel
theorem dX10_action_100 : decode cX10_action 100 = .ok (.iaload, 1) := by decide +kernel
theorem dX10_action_101 : decode cX10_action 101 = .ok (.ireturn, 1) := by decide +kernel
theorem dX10_action_102 : decode cX10_action 102 = .ok (.aload 4, 2) := by decide +kernel
theorem dX10_action_104 : decode cX10_action 104 = .ok (.getfield 132, 3) := by decide +kernel
theorem dX10_action_107 : decode cX10_action 107 = .ok (.iload 5, 2) := by decide +kernel
theorem dX10_action_109 : decode cX10_action 109 = .ok (.iaload, 1) := by decide +kernel
theorem dX10_action_110 : decode cX10_action 110 = .ok (.ireturn, 1) := by decide +kernel
theorem dX10_action_111 : decode cX10_action 111 = .ok (.iconst (-1), 1) := by decide +kernel
theorem dX10_action_112 : decode cX10_action 112 = .ok (.ireturn, 1) := by decide +kernel
theorem dX10_allowed_0 : decode cX10_allowed 0 = .ok (.aload_n 0, 1) := by decide +kernel
theorem dX10_allowed_1 : decode cX10_allowed 1 = .ok (.iload_n 1, 1) := by decide +kernel
theorem dX10_allowed_2 : decode cX10_allowed 2 = .ok (.invokevirtual 88, 3) := by decide +kernel
theorem dX10_allowed_5 : decode cX10_allowed 5 = .ok (.astore_n 3, 1) := by decide +kernel
theorem dX10_allowed_6 : decode cX10_allowed 6 = .ok (.iload_n 2, 1) := by decide +kernel
theorem dX10_allowed_7 : decode cX10_allowed 7 = .ok (.invokestatic 151, 3) := by decide +kernel
theorem dX10_allowed_10 : decode cX10_allowed 10 = .ok (.ifCond .ne 5, 3) := by decide +kernel
theorem dX10_allowed_13 : decode cX10_allowed 13 = .ok (.iconst (-1), 1) := by decide +kernel
theorem dX10_allowed_14 : decode cX10_allowed 14 = .ok (.ireturn, 1) := by decide +kernel
theorem dX10_allowed_15 : decode cX10_allowed 15 = .ok (.aload_n 0, 1) := by decide +kernel
theorem dX10_allowed_16 : decode cX10_allowed 16 = .ok (.aload_n 3, 1) := by decide +kernel
theorem dX10_allowed_17 : decode cX10_allowed 17 = .ok (.iload_n 2, 1) := by decide +kernel
theorem dX10_allowed_18 : decode cX10_allowed 18 = .ok (.invokevirtual 155, 3) := by decide +kernel
theorem dX10_allowed_21 : decode cX10_allowed 21 = .ok (.astore 4, 2) := by decide +kernel
theorem dX10_allowed_23 : decode cX10_allowed 23 = .ok (.iconst 0, 1) := by decide +kernel
theorem dX10_allowed_24 : decode cX10_allowed 24 = .ok (.istore 5, 2) := by decide +kernel
theorem dX10_allowed_26 : decode cX10_allowed 26 = .ok (.iconst 0, 1) := by decide +kernel
theorem dX10_allowed_27 : decode cX10_allowed 27 = .ok (.istore 6, 2) := by decide +kernel
theorem dX10_allowed_29 : decode cX10_allowed 29 = .ok (.iload 6, 2) := by decide +kernel
theorem dX10_allowed_31 : decode cX10_allowed 31 = .ok (.aload 4, 2) := by decide +kernel
theorem dX10_allowed_33 : decode cX10_allowed 33 = .ok (.arraylength, 1) := by decide +kernel
theorem dX10_allowed_34 : decode cX10_allowed 34 = .ok (.if_icmp .ge 27, 3) := by decide +kernel
theorem dX10_allowed_37 : decode cX10_allowed 37 = .ok (.aload 4, 2) := by decide +kernel
theorem dX10_allowed_39 : decode cX10_allowed 39 = .ok (.iload 6, 2) := by decide +kernel
theorem dX10_allowed_41 : decode cX10_allowed 41 = .ok (.iaload, 1) := by decide +kernel
theorem dX10_allowed_42 : decode cX10_allowed 42 = .ok (.aload_n 0, 1) := by decide +kernel
theorem dX10_allowed_43 : decode cX10_allowed 43 = .ok (.getfield 19, 3) := by decide +kernel
theorem dX10_allowed_46 : decode cX10_allowed 46 = .ok (.invokestatic 167, 3) := by decide +kernel
theorem dX10_allowed_49 : decode cX10_allowed 49 = .ok (.ifCond .eq 6, 3) := by decide +kernel
theorem dX10_allowed_52 : decode cX10_allowed 52 = .ok (.iinc 5 1, 3) := by decide +kernel
theorem dX10_allowed_55 : decode cX10_allowed 55 = .ok (.iinc 6 1, 3) := by decide +kernel
theorem dX10_allowed_58 : decode cX10_allowed 58 = .ok (.goto (-29), 3) := by decide +kernel
theorem dX10_allowed_61 : decode cX10_allowed 61 = .ok (.iload 5, 2) := by decide +kernel
theorem dX10_allowed_63 : decode cX10_allowed 63 = .ok (.ireturn, 1) := by decide +kernel
theorem dX10_before_0 : decode cX10_before 0 = .ok (.aload_n 0, 1) := by decide +kernel
theorem dX10_before_1 : decode cX10_before 1 = .ok (.iload_n 1, 1) := by decide +kernel
theorem dX10_before_2 : decode cX10_before 2 = .ok (.invokevirtual 88, 3) := by decide +kernel
theorem dX10_before_5 : decode cX10_before 5 = .ok (.astore 4, 2) := by decide +kernel
theorem dX10_before_7 : decode cX10_before 7 = .ok (.aload 4, 2) := by decide +kernel
theorem dX10_before_9 : decode cX10_before 9 = .ok (.getfield 79, 3) := by decide +kernel
theorem dX10_before_12 : decode cX10_before 12 = .ok (.getfield 83, 3) := by decide +kernel
theorem dX10_before_15 : decode cX10_before 15 = .ok (.istore 5, 2) := by decide +kernel
theorem dX10_before_17 : decode cX10_before 17 = .ok (.iload_n 2, 1) := by decide +kernel
theorem dX10_before_18 : decode cX10_before 18 = .ok (.ifCond .lt 24, 3) := by decide +kernel
theorem dX10_before_21 : decode cX10_before 21 = .ok (.iload_n 2, 1) := by decide +kernel
theorem dX10_before_22 : decode cX10_before 22 = .ok (.iload 5, 2) := by decide +kernel
theorem dX10_before_24 : decode cX10_before 24 = .ok (.if_icmp .ge 18, 3) := by decide +kernel
theorem dX10_before_27 : decode cX10_before 27 = .ok (.iload_n 3, 1) := by decide +kernel
theorem dX10_before_28 : decode cX10_before 28 = .ok (.ifCond .lt 14, 3) := by decide +kernel
theorem dX10_before_31 : decode cX10_before 31 = .ok (.iload_n 3, 1) := by decide +kernel
theorem dX10_before_32 : decode cX10_before 32 = .ok (.iload 5, 2) := by decide +kernel
theorem dX10_before_34 : decode cX10_before 34 = .ok (.if_icmp .ge 8, 3) := by decide +kernel
theorem dX10_before_37 : decode cX10_before 37 = .ok (.iload_n 2, 1) := by decide +kernel
theorem dX10_before_38 : decode cX10_before 38 = .ok (.iload_n 3, 1) := by decide +kernel
theorem dX10_before_39 : decode cX10_before 39 = .ok (.if_icmp .ne 5, 3) := by decide +kernel
theorem dX10_before_42 : decode cX10_before 42 = .ok (.iconst (-1), 1) := by decide +kernel
theorem dX10_before_43 : decode cX10_before 43 = .ok (.ireturn, 1) := by decide +kernel
theorem dX10_before_44 : decode cX10_before 44 = .ok (.aload_n 0, 1) := by decide +kernel
theorem dX10_before_45 : decode cX10_before 45 = .ok (.aload 4, 2) := by decide +kernel
theorem dX10_before_47 : decode cX10_before 47 = .ok (.iconst 2, 1) := by decide +kernel
theorem dX10_before_48 : decode cX10_before 48 = .ok (.invokevirtual 155, 3) := by decide +kernel
theorem dX10_before_51 : decode cX10_before 51 = .ok (.pop, 1) := by decide +kernel
theorem dX10_before_52 : decode cX10_before 52 = .ok (.lconst 1, 1) := by decide +kernel
theorem dX10_before_53 : decode cX10_before 53 = .ok (.bipush 8, 2) := by decide +kernel
theorem dX10_before_55 : decode cX10_before 55 = .ok (.iload_n 3, 1) := by decide +kernel
theorem dX10_before_56 : decode cX10_before 56 = .ok (.imul, 1) := by decide +kernel
theorem dX10_before_57 : decode cX10_before 57 = .ok (.iload_n 2, 1) := by decide +kernel
theorem dX10_before_58 : decode cX10_before 58 = .ok (.iadd, 1) := by decide +kernel
theorem dX10_before_59 : decode cX10_before 59 = .ok (.lshl, 1) := by decide +kernel
theorem dX10_before_60 : decode cX10_before 60 = .ok (.lstore 6, 2) := by decide +kernel
theorem dX10_before_62 : decode cX10_before 62 = .ok (.aload 4, 2) := by decide +kernel
theorem dX10_before_64 : decode cX10_before 64 = .ok (.getfield 187, 3) := by decide +kernel
theorem dX10_before_67 : decode cX10_before 67 = .ok (.lload 6, 2) := by decide +kernel
theorem dX10_before_69 : decode cX10_before 69 = .ok (.land, 1) := by decide +kernel
theorem dX10_before_70 : decode cX10_before 70 = .ok (.lconst 0, 1) := by decide +kernel
theorem dX10_before_71 : decode cX10_before 71 = .ok (.lcmp, 1) := by decide +kernel
theorem dX10_before_72 : decode cX10_before 72 = .ok (.ifCond .ne 5, 3) := by decide +kernel
theorem dX10_before_75 : decode cX10_before 75 = .ok (.iconst 0, 1) := by decide +kernel
theorem dX10_before_76 : decode cX10_before 76 = .ok (.ireturn, 1) := by decide +kernel
theorem dX10_before_77 : decode cX10_before 77 = .ok (.aload 4, 2) := by decide +kernel
theorem dX10_before_79 : decode cX10_before 79 = .ok (.getfield 191, 3) := by decide +kernel
theorem dX10_before_82 : decode cX10_before 82 = .ok (.lload 6, 2) := by decide +kernel
theorem dX10_before_84 : decode cX10_before 84 = .ok (.land, 1) := by decide +kernel
theorem dX10_before_85 : decode cX10_before 85 = .ok (.lconst 0, 1) := by decide +kernel
theorem dX10_before_86 : decode cX10_before 86 = .ok (.lcmp, 1) := by decide +kernel
theorem dX10_before_87 : decode cX10_before 87 = .ok (.ifCond .ne 5, 3) := by decide +kernel
theorem dX10_before_90 : decode cX10_before 90 = .ok (.iconst 1, 1) := by decide +kernel
theorem dX10_before_91 : decode cX10_before 91 = .ok (.ireturn, 1) := by decide +kernel
theorem dX10_before_92 : decode cX10_before 92 = .ok (.aload 4, 2) := by decide +kernel
theorem dX10_before_94 : decode cX10_before 94 = .ok (.getfield 194, 3) := by decide +kernel
theorem dX10_before_97 : decode cX10_before 97 = .ok (.lload 6, 2) := by decide +kernel
theorem dX10_before_99 : decode cX10_before 99 = .ok (.land, 1) := by decide +kernel
theorem dX10_before_100 : decode cX10_before 100 = .ok (.lconst 0, 1) := by decide +kernel
theorem dX10_before_101 : decode cX10_before 101 = .ok (.lcmp, 1) := by decide +kernel
theorem dX10_before_102 : decode cX10_before 102 = .ok (.ifCond .eq 7, 3) := by decide +kernel
theorem dX10_before_105 : decode cX10_before 105 = .ok (.iconst 2, 1) := by decide +kernel
theorem dX10_before_106 : decode cX10_before 106 = .ok (.goto 4, 3) := by decide +kernel
theorem dX10_before_109 : decode cX10_before 109 = .ok (.iconst 3, 1) := by decide +kernel
theorem dX10_before_110 : decode cX10_before 110 = .ok (.ireturn, 1) := by decide +kernel
theorem dX10_drop_0 : decode cX10_drop 0 = .ok (.iload_n 1, 1) := by decide +kernel
theorem dX10_drop_1 : decode cX10_drop 1 = .ok (.invokestatic 70, 3) := by decide +kernel
theorem dX10_drop_4 : decode cX10_drop 4 = .ok (.aload_n 0, 1) := by decide +kernel
theorem dX10_drop_5 : decode cX10_drop 5 = .ok (.getfield 15, 3) := by decide +kernel
theorem dX10_drop_8 : decode cX10_drop 8 = .ok (.iload_n 1, 1) := by decide +kernel
theorem dX10_drop_9 : decode cX10_drop 9 = .ok (.aaload, 1) := by decide +kernel
theorem dX10_drop_10 : decode cX10_drop 10 = .ok (.ifnull 7, 3) := by decide +kernel
theorem dX10_drop_13 : decode cX10_drop 13 = .ok (.iconst 1, 1) := by decide +kernel
theorem dX10_drop_14 : decode cX10_drop 14 = .ok (.goto 4, 3) := by decide +kernel
theorem dX10_drop_17 : decode cX10_drop 17 = .ok (.iconst 0, 1) := by decide +kernel
theorem dX10_drop_18 : decode cX10_drop 18 = .ok (.istore_n 2, 1) := by decide +kernel
theorem dX10_drop_19 : decode cX10_drop 19 = .ok (.aload_n 0, 1) := by decide +kernel
theorem dX10_drop_20 : decode cX10_drop 20 = .ok (.getfield 15, 3) := by decide +kernel
theorem dX10_drop_23 : decode cX10_drop 23 = .ok (.iload_n 1, 1) := by decide +kernel
theorem dX10_drop_24 : decode cX10_drop 24 = .ok (.aconst_null, 1) := by decide +kernel
theorem dX10_drop_25 : decode cX10_drop 25 = .ok (.aastore, 1) := by decide +kernel
theorem dX10_drop_26 : decode cX10_drop 26 = .ok (.iload_n 2, 1) := by decide +kernel
theorem dX10_drop_27 : decode cX10_drop 27 = .ok (.ireturn, 1) := by decide +kernel
theorem dX10_fence_0 : decode cX10_fence 0 = .ok (.aload_n 0, 1) := by decide +kernel
theorem dX10_fence_1 : decode cX10_fence 1 = .ok (.iload_n 1, 1) := by decide +kernel
theorem dX10_fence_2 : decode cX10_fence 2 = .ok (.invokevirtual 88, 3) := by decide +kernel
theorem dX10_fence_5 : decode cX10_fence 5 = .ok (.astore_n 3, 1) := by decide +kernel
theorem dX10_fence_6 : decode cX10_fence 6 = .ok (.iload_n 2, 1) := by decide +kernel
theorem dX10_fence_7 : decode cX10_fence 7 = .ok (.iconst 1, 1) := by decide +kernel
theorem dX10_fence_8 : decode cX10_fence 8 = .ok (.if_icmp .eq 8, 3) := by decide +kernel
theorem dX10_fence_11 : decode cX10_fence 11 = .ok (.iload_n 2, 1) := by decide +kernel
theorem dX10_fence_12 : decode cX10_fence 12 = .ok (.iconst 2, 1) := by decide +kernel
theorem dX10_fence_13 : decode cX10_fence 13 = .ok (.if_icmp .ne 11, 3) := by decide +kernel
theorem dX10_fence_16 : decode cX10_fence 16 = .ok (.aload_n 3, 1) := by decide +kernel
theorem dX10_fence_17 : decode cX10_fence 17 = .ok (.iconst 2, 1) := by decide +kernel
theorem dX10_fence_18 : decode cX10_fence 18 = .ok (.invokevirtual 197, 3) := by decide +kernel
theorem dX10_fence_21 : decode cX10_fence 21 = .ok (.ifCond .eq 5, 3) := by decide +kernel
theorem dX10_fence_24 : decode cX10_fence 24 = .ok (.iconst (-1), 1) := by decide +kernel
theorem dX10_fence_25 : decode cX10_fence 25 = .ok (.ireturn, 1) := by decide +kernel
theorem dX10_fence_26 : decode cX10_fence 26 = .ok (.aload_n 0, 1) := by decide +kernel
theorem dX10_fence_27 : decode cX10_fence 27 = .ok (.aload_n 3, 1) := by decide +kernel
theorem dX10_fence_28 : decode cX10_fence 28 = .ok (.iconst 0, 1) := by decide +kernel
theorem dX10_fence_29 : decode cX10_fence 29 = .ok (.invokevirtual 155, 3) := by decide +kernel
theorem dX10_fence_32 : decode cX10_fence 32 = .ok (.astore 4, 2) := by decide +kernel
theorem dX10_fence_34 : decode cX10_fence 34 = .ok (.aload_n 3, 1) := by decide +kernel
theorem dX10_fence_35 : decode cX10_fence 35 = .ok (.iconst 0, 1) := by decide +kernel
theorem dX10_fence_36 : decode cX10_fence 36 = .ok (.invokevirtual 197, 3) := by decide +kernel
theorem dX10_fence_39 : decode cX10_fence 39 = .ok (.aload_n 3, 1) := by decide +kernel
theorem dX10_fence_40 : decode cX10_fence 40 = .ok (.getfield 79, 3) := by decide +kernel
theorem dX10_fence_43 : decode cX10_fence 43 = .ok (.invokevirtual 200, 3) := by decide +kernel
theorem dX10_fence_46 : decode cX10_fence 46 = .ok (.iand, 1) := by decide +kernel
theorem dX10_fence_47 : decode cX10_fence 47 = .ok (.istore 5, 2) := by decide +kernel
theorem dX10_fence_49 : decode cX10_fence 49 = .ok (.iconst 0, 1) := by decide +kernel
theorem dX10_fence_50 : decode cX10_fence 50 = .ok (.istore 6, 2) := by decide +kernel
theorem dX10_fence_52 : decode cX10_fence 52 = .ok (.iload 6, 2) := by decide +kernel
theorem dX10_fence_54 : decode cX10_fence 54 = .ok (.iconst 5, 1) := by decide +kernel
theorem dX10_fence_55 : decode cX10_fence 55 = .ok (.if_icmp .gt 64, 3) := by decide +kernel
theorem dX10_fence_58 : decode cX10_fence 58 = .ok (.iconst 0, 1) := by decide +kernel
theorem dX10_fence_59 : decode cX10_fence 59 = .ok (.istore 7, 2) := by decide +kernel
theorem dX10_fence_61 : decode cX10_fence 61 = .ok (.iload 7, 2) := by decide +kernel
theorem dX10_fence_63 : decode cX10_fence 63 = .ok (.bipush 64, 2) := by decide +kernel
theorem dX10_fence_65 : decode cX10_fence 65 = .ok (.if_icmp .ge 48, 3) := by decide +kernel
theorem dX10_fence_68 : decode cX10_fence 68 = .ok (.iload 7, 2) := by decide +kernel
theorem dX10_fence_70 : decode cX10_fence 70 = .ok (.iload 5, 2) := by decide +kernel
theorem dX10_fence_72 : decode cX10_fence 72 = .ok (.iconst (-1), 1) := by decide +kernel
theorem dX10_fence_73 : decode cX10_fence 73 = .ok (.ixor, 1) := by decide +kernel
theorem dX10_fence_74 : decode cX10_fence 74 = .ok (.iand, 1) := by decide +kernel
theorem dX10_fence_75 : decode cX10_fence 75 = .ok (.ifCond .ne 32, 3) := by decide +kernel
theorem dX10_fence_78 : decode cX10_fence 78 = .ok (.iload 7, 2) := by decide +kernel
theorem dX10_fence_80 : decode cX10_fence 80 = .ok (.invokestatic 102, 3) := by decide +kernel
theorem dX10_fence_83 : decode cX10_fence 83 = .ok (.iload 6, 2) := by decide +kernel
theorem dX10_fence_85 : decode cX10_fence 85 = .ok (.if_icmp .ne 22, 3) := by decide +kernel
theorem dX10_fence_88 : decode cX10_fence 88 = .ok (.aload_n 0, 1) := by decide +kernel
theorem dX10_fence_89 : decode cX10_fence 89 = .ok (.getfield 39, 3) := by decide +kernel
theorem dX10_fence_92 : decode cX10_fence 92 = .ok (.aload_n 3, 1) := by decide +kernel
theorem dX10_fence_93 : decode cX10_fence 93 = .ok (.iload_n 2, 1) := by decide +kernel
theorem dX10_fence_94 : decode cX10_fence 94 = .ok (.iload 7, 2) := by decide +kernel
theorem dX10_fence_96 : decode cX10_fence 96 = .ok (.aload 4, 2) := by decide +kernel
theorem dX10_fence_98 : decode cX10_fence 98 = .ok (.invokevirtual 203, 3) := by decide +kernel
theorem dX10_fence_101 : decode cX10_fence 101 = .ok (.ifCond .eq 6, 3) := by decide +kernel
theorem dX10_fence_104 : decode cX10_fence 104 = .ok (.iload 7, 2) := by decide +kernel
theorem dX10_fence_106 : decode cX10_fence 106 = .ok (.ireturn, 1) := by decide +kernel
theorem dX10_fence_107 : decode cX10_fence 107 = .ok (.iinc 7 1, 3) := by decide +kernel
theorem dX10_fence_110 : decode cX10_fence 110 = .ok (.goto (-49), 3) := by decide +kernel
theorem dX10_fence_113 : decode cX10_fence 113 = .ok (.iinc 6 1, 3) := by decide +kernel
theorem dX10_fence_116 : decode cX10_fence 116 = .ok (.goto (-64), 3) := by decide +kernel
theorem dX10_fence_119 : decode cX10_fence 119 = .ok (.iconst (-1), 1) := by decide +kernel
theorem dX10_fence_120 : decode cX10_fence 120 = .ok (.ireturn, 1) := by decide +kernel
theorem dX10_kind_0 : decode cX10_kind 0 = .ok (.aload_n 0, 1) := by decide +kernel
theorem dX10_kind_1 : decode cX10_kind 1 = .ok (.iload_n 1, 1) := by decide +kernel
theorem dX10_kind_2 : decode cX10_kind 2 = .ok (.invokevirtual 88, 3) := by decide +kernel
theorem dX10_kind_5 : decode cX10_kind 5 = .ok (.astore_n 3, 1) := by decide +kernel
theorem dX10_kind_6 : decode cX10_kind 6 = .ok (.iload_n 2, 1) := by decide +kernel
theorem dX10_kind_7 : decode cX10_kind 7 = .ok (.ifCond .lt 9, 3) := by decide +kernel
theorem dX10_kind_10 : decode cX10_kind 10 = .ok (.iload_n 2, 1) := by decide +kernel
theorem dX10_kind_11 : decode cX10_kind 11 = .ok (.bipush 6, 2) := by decide +kernel
theorem dX10_kind_13 : decode cX10_kind 13 = .ok (.if_icmp .lt 5, 3) := by decide +kernel
theorem dX10_kind_16 : decode cX10_kind 16 = .ok (.iconst (-1), 1) := by decide +kernel
theorem dX10_kind_17 : decode cX10_kind 17 = .ok (.ireturn, 1) := by decide +kernel
theorem dX10_kind_18 : decode cX10_kind 18 = .ok (.aload_n 3, 1) := by decide +kernel
theorem dX10_kind_19 : decode cX10_kind 19 = .ok (.getfield 117, 3) := by decide +kernel
theorem dX10_kind_22 : decode cX10_kind 22 = .ok (.iload_n 2, 1) := by decide +kernel
theorem dX10_kind_23 : decode cX10_kind 23 = .ok (.iaload, 1) := by decide +kernel
theorem dX10_kind_24 : decode cX10_kind 24 = .ok (.ireturn, 1) := by decide +kernel
theorem dX10_load_0 : decode cX10_load 0 = .ok (.iload_n 1, 1) := by decide +kernel
theorem dX10_load_1 : decode cX10_load 1 = .ok (.invokestatic 70, 3) := by decide +kernel
theorem dX10_load_4 : decode cX10_load 4 = .ok (.aload_n 0, 1) := by decide +kernel
theorem dX10_load_5 : decode cX10_load 5 = .ok (.getfield 25, 3) := by decide +kernel
theorem dX10_load_8 : decode cX10_load 8 = .ok (.aload_n 0, 1) := by decide +kernel
theorem dX10_load_9 : decode cX10_load 9 = .ok (.getfield 9, 3) := by decide +kernel
theorem dX10_load_12 : decode cX10_load 12 = .ok (.aload_n 0, 1) := by decide +kernel
theorem dX10_load_13 : decode cX10_load 13 = .ok (.getfield 50, 3) := by decide +kernel
theorem dX10_load_16 : decode cX10_load 16 = .ok (.invokevirtual 73, 3) := by decide +kernel
theorem dX10_load_19 : decode cX10_load 19 = .ok (.astore_n 2, 1) := by decide +kernel
theorem dX10_load_20 : decode cX10_load 20 = .ok (.aload_n 0, 1) := by decide +kernel
theorem dX10_load_21 : decode cX10_load 21 = .ok (.iconst 0, 1) := by decide +kernel
theorem dX10_load_22 : decode cX10_load 22 = .ok (.putfield 50, 3) := by decide +kernel
theorem dX10_load_25 : decode cX10_load 25 = .ok (.aload_n 0, 1) := by decide +kernel
theorem dX10_load_26 : decode cX10_load 26 = .ok (.aload_n 0, 1) := by decide +kernel
theorem dX10_load_27 : decode cX10_load 27 = .ok (.getfield 25, 3) := by decide +kernel
theorem dX10_load_30 : decode cX10_load 30 = .ok (.getfield 77, 3) := by decide +kernel
theorem dX10_load_33 : decode cX10_load 33 = .ok (.putfield 54, 3) := by decide +kernel
theorem dX10_load_36 : decode cX10_load 36 = .ok (.aload_n 0, 1) := by decide +kernel
theorem dX10_load_37 : decode cX10_load 37 = .ok (.aload_n 0, 1) := by decide +kernel
theorem dX10_load_38 : decode cX10_load 38 = .ok (.getfield 25, 3) := by decide +kernel
theorem dX10_load_41 : decode cX10_load 41 = .ok (.getfield 78, 3) := by decide +kernel
theorem dX10_load_44 : decode cX10_load 44 = .ok (.putfield 57, 3) := by decide +kernel
theorem dX10_load_47 : decode cX10_load 47 = .ok (.aload_n 0, 1) := by decide +kernel
theorem dX10_load_48 : decode cX10_load 48 = .ok (.getfield 54, 3) := by decide +kernel
theorem dX10_load_51 : decode cX10_load 51 = .ok (.ifCond .eq 5, 3) := by decide +kernel
theorem dX10_load_54 : decode cX10_load 54 = .ok (.iconst (-1), 1) := by decide +kernel
theorem dX10_load_55 : decode cX10_load 55 = .ok (.ireturn, 1) := by decide +kernel
theorem dX10_load_56 : decode cX10_load 56 = .ok (.aload_n 0, 1) := by decide +kernel
theorem dX10_load_57 : decode cX10_load 57 = .ok (.getfield 15, 3) := by decide +kernel
theorem dX10_load_60 : decode cX10_load 60 = .ok (.iload_n 1, 1) := by decide +kernel
theorem dX10_load_61 : decode cX10_load 61 = .ok (.aload_n 2, 1) := by decide +kernel
theorem dX10_load_62 : decode cX10_load 62 = .ok (.aastore, 1) := by decide +kernel
theorem dX10_load_63 : decode cX10_load 63 = .ok (.aload_n 2, 1) := by decide +kernel
theorem dX10_load_64 : decode cX10_load 64 = .ok (.getfield 79, 3) := by decide +kernel
theorem dX10_load_67 : decode cX10_load 67 = .ok (.getfield 83, 3) := by decide +kernel
theorem dX10_load_70 : decode cX10_load 70 = .ok (.ireturn, 1) := by decide +kernel
theorem dX10_look_0 : decode cX10_look 0 = .ok (.aload_n 0, 1) := by decide +kernel
theorem dX10_look_1 : decode cX10_look 1 = .ok (.iload_n 1, 1) := by decide +kernel
theorem dX10_look_2 : decode cX10_look 2 = .ok (.invokevirtual 88, 3) := by decide +kernel
theorem dX10_look_5 : decode cX10_look 5 = .ok (.astore_n 3, 1) := by decide +kernel
theorem dX10_look_6 : decode cX10_look 6 = .ok (.aload_n 3, 1) := by decide +kernel
theorem dX10_look_7 : decode cX10_look 7 = .ok (.getfield 79, 3) := by decide +kernel
theorem dX10_look_10 : decode cX10_look 10 = .ok (.astore 4, 2) := by decide +kernel
theorem dX10_look_12 : decode cX10_look 12 = .ok (.iload_n 2, 1) := by decide +kernel
theorem dX10_look_13 : decode cX10_look 13 = .ok (.tableswitch 90 0 6 #[43, 49, 55, 60, 69, 78, 84], 43) := by decide +kernel
theorem dX10_look_56 : decode cX10_look 56 = .ok (.aload 4, 2) := by decide +kernel
theorem dX10_look_58 : decode cX10_look 58 = .ok (.getfield 92, 3) := by decide +kernel
theorem dX10_look_61 : decode cX10_look 61 = .ok (.ireturn, 1) := by decide +kernel
theorem dX10_look_62 : decode cX10_look 62 = .ok (.aload 4, 2) := by decide +kernel
theorem dX10_look_64 : decode cX10_look 64 = .ok (.getfield 83, 3) := by decide +kernel
theorem dX10_look_67 : decode cX10_look 67 = .ok (.ireturn, 1) := by decide +kernel
theorem dX10_look_68 : decode cX10_look 68 = .ok (.aload_n 3, 1) := by decide +kernel
theorem dX10_look_69 : decode cX10_look 69 = .ok (.invokevirtual 95, 3) := by decide +kernel
theorem dX10_look_72 : decode cX10_look 72 = .ok (.ireturn, 1) := by decide +kernel
theorem dX10_look_73 : decode cX10_look 73 = .ok (.aload 4, 2) := by decide +kernel
theorem dX10_look_75 : decode cX10_look 75 = .ok (.getfield 99, 3) := by decide +kernel
theorem dX10_look_78 : decode cX10_look 78 = .ok (.invokestatic 102, 3) := by decide +kernel
theorem dX10_look_81 : decode cX10_look 81 = .ok (.ireturn, 1) := by decide +kernel
theorem dX10_look_82 : decode cX10_look 82 = .ok (.aload 4, 2) := by decide +kernel
theorem dX10_look_84 : decode cX10_look 84 = .ok (.getfield 108, 3) := by decide +kernel
theorem dX10_look_87 : decode cX10_look 87 = .ok (.invokestatic 102, 3) := by decide +kernel
theorem dX10_look_90 : decode cX10_look 90 = .ok (.ireturn, 1) := by decide +kernel
theorem dX10_look_91 : decode cX10_look 91 = .ok (.aload 4, 2) := by decide +kernel
theorem dX10_look_93 : decode cX10_look 93 = .ok (.getfield 111, 3) := by decide +kernel
theorem dX10_look_96 : decode cX10_look 96 = .ok (.ireturn, 1) := by decide +kernel
theorem dX10_look_97 : decode cX10_look 97 = .ok (.aload 4, 2) := by decide +kernel
theorem dX10_look_99 : decode cX10_look 99 = .ok (.getfield 114, 3) := by decide +kernel
theorem dX10_look_102 : decode cX10_look 102 = .ok (.ireturn, 1) := by decide +kernel
theorem dX10_look_103 : decode cX10_look 103 = .ok (.iconst (-1), 1) := by decide +kernel
theorem dX10_look_104 : decode cX10_look 104 = .ok (.ireturn, 1) := by decide +kernel
theorem dX10_make_0 : decode cX10_make 0 = .ok (.iload_n 1, 1) := by decide +kernel
theorem dX10_make_1 : decode cX10_make 1 = .ok (.invokestatic 70, 3) := by decide +kernel
theorem dX10_make_4 : decode cX10_make 4 = .ok (.iload_n 3, 1) := by decide +kernel
theorem dX10_make_5 : decode cX10_make 5 = .ok (.invokestatic 70, 3) := by decide +kernel
theorem dX10_make_8 : decode cX10_make 8 = .ok (.aload_n 0, 1) := by decide +kernel
theorem dX10_make_9 : decode cX10_make 9 = .ok (.iload_n 1, 1) := by decide +kernel
theorem dX10_make_10 : decode cX10_make 10 = .ok (.invokevirtual 88, 3) := by decide +kernel
theorem dX10_make_13 : decode cX10_make 13 = .ok (.astore 4, 2) := by decide +kernel
theorem dX10_make_15 : decode cX10_make 15 = .ok (.iload_n 2, 1) := by decide +kernel
theorem dX10_make_16 : decode cX10_make 16 = .ok (.aload 4, 2) := by decide +kernel
theorem dX10_make_18 : decode cX10_make 18 = .ok (.iconst 0, 1) := by decide +kernel
theorem dX10_make_19 : decode cX10_make 19 = .ok (.invokevirtual 197, 3) := by decide +kernel
theorem dX10_make_22 : decode cX10_make 22 = .ok (.iconst (-1), 1) := by decide +kernel
theorem dX10_make_23 : decode cX10_make 23 = .ok (.ixor, 1) := by decide +kernel
theorem dX10_make_24 : decode cX10_make 24 = .ok (.iand, 1) := by decide +kernel
theorem dX10_make_25 : decode cX10_make 25 = .ok (.ifCond .eq 5, 3) := by decide +kernel
theorem dX10_make_28 : decode cX10_make 28 = .ok (.iconst (-1), 1) := by decide +kernel
theorem dX10_make_29 : decode cX10_make 29 = .ok (.ireturn, 1) := by decide +kernel
theorem dX10_make_30 : decode cX10_make 30 = .ok (.aload_n 0, 1) := by decide +kernel
theorem dX10_make_31 : decode cX10_make 31 = .ok (.getfield 15, 3) := by decide +kernel
theorem dX10_make_34 : decode cX10_make 34 = .ok (.iload_n 3, 1) := by decide +kernel
theorem dX10_make_35 : decode cX10_make 35 = .ok (.aload 4, 2) := by decide +kernel
theorem dX10_make_37 : decode cX10_make 37 = .ok (.iload_n 2, 1) := by decide +kernel
theorem dX10_make_38 : decode cX10_make 38 = .ok (.invokevirtual 207, 3) := by decide +kernel
theorem dX10_make_41 : decode cX10_make 41 = .ok (.aastore, 1) := by decide +kernel
theorem dX10_make_42 : decode cX10_make 42 = .ok (.iload_n 2, 1) := by decide +kernel
theorem dX10_make_43 : decode cX10_make 43 = .ok (.invokestatic 102, 3) := by decide +kernel
theorem dX10_make_46 : decode cX10_make 46 = .ok (.ireturn, 1) := by decide +kernel
theorem dX10_outcomes_0 : decode cX10_outcomes 0 = .ok (.aload_n 0, 1) := by decide +kernel
theorem dX10_outcomes_1 : decode cX10_outcomes 1 = .ok (.iload_n 1, 1) := by decide +kernel
theorem dX10_outcomes_2 : decode cX10_outcomes 2 = .ok (.invokevirtual 88, 3) := by decide +kernel
theorem dX10_outcomes_5 : decode cX10_outcomes 5 = .ok (.astore_n 3, 1) := by decide +kernel
theorem dX10_outcomes_6 : decode cX10_outcomes 6 = .ok (.iload_n 2, 1) := by decide +kernel
theorem dX10_outcomes_7 : decode cX10_outcomes 7 = .ok (.invokestatic 151, 3) := by decide +kernel
theorem dX10_outcomes_10 : decode cX10_outcomes 10 = .ok (.ifCond .eq 13, 3) := by decide +kernel
theorem dX10_outcomes_13 : decode cX10_outcomes 13 = .ok (.aload_n 0, 1) := by decide +kernel
theorem dX10_outcomes_14 : decode cX10_outcomes 14 = .ok (.aload_n 3, 1) := by decide +kernel
theorem dX10_outcomes_15 : decode cX10_outcomes 15 = .ok (.iload_n 2, 1) := by decide +kernel
theorem dX10_outcomes_16 : decode cX10_outcomes 16 = .ok (.invokevirtual 155, 3) := by decide +kernel
theorem dX10_outcomes_19 : decode cX10_outcomes 19 = .ok (.arraylength, 1) := by decide +kernel
theorem dX10_outcomes_20 : decode cX10_outcomes 20 = .ok (.goto 4, 3) := by decide +kernel
theorem dX10_outcomes_23 : decode cX10_outcomes 23 = .ok (.iconst (-1), 1) := by decide +kernel
theorem dX10_outcomes_24 : decode cX10_outcomes 24 = .ok (.ireturn, 1) := by decide +kernel
theorem dX10_print_0 : decode cX10_print 0 = .ok (.aload_n 0, 1) := by decide +kernel
theorem dX10_print_1 : decode cX10_print 1 = .ok (.getfield 32, 3) := by decide +kernel
theorem dX10_print_4 : decode cX10_print 4 = .ok (.aload_n 0, 1) := by decide +kernel
theorem dX10_print_5 : decode cX10_print 5 = .ok (.iload_n 1, 1) := by decide +kernel
theorem dX10_print_6 : decode cX10_print 6 = .ok (.invokevirtual 88, 3) := by decide +kernel
theorem dX10_print_9 : decode cX10_print 9 = .ok (.invokevirtual 135, 3) := by decide +kernel
theorem dX10_print_12 : decode cX10_print 12 = .ok (.ireturn, 1) := by decide +kernel
theorem dX10_race_0 : decode cX10_race 0 = .ok (.aload_n 0, 1) := by decide +kernel
theorem dX10_race_1 : decode cX10_race 1 = .ok (.aload_n 0, 1) := by decide +kernel
theorem dX10_race_2 : decode cX10_race 2 = .ok (.iload_n 1, 1) := by decide +kernel
theorem dX10_race_3 : decode cX10_race 3 = .ok (.invokevirtual 88, 3) := by decide +kernel
theorem dX10_race_6 : decode cX10_race 6 = .ok (.invokevirtual 178, 3) := by decide +kernel
theorem dX10_race_9 : decode cX10_race 9 = .ok (.lstore 4, 2) := by decide +kernel
theorem dX10_race_11 : decode cX10_race 11 = .ok (.iload_n 2, 1) := by decide +kernel
theorem dX10_race_12 : decode cX10_race 12 = .ok (.ifCond .lt 12, 3) := by decide +kernel
theorem dX10_race_15 : decode cX10_race 15 = .ok (.iload_n 3, 1) := by decide +kernel
theorem dX10_race_16 : decode cX10_race 16 = .ok (.ifCond .lt 8, 3) := by decide +kernel
theorem dX10_race_19 : decode cX10_race 19 = .ok (.iload_n 3, 1) := by decide +kernel
theorem dX10_race_20 : decode cX10_race 20 = .ok (.iconst 1, 1) := by decide +kernel
theorem dX10_race_21 : decode cX10_race 21 = .ok (.if_icmp .le 5, 3) := by decide +kernel
theorem dX10_race_24 : decode cX10_race 24 = .ok (.iconst (-1), 1) := by decide +kernel
theorem dX10_race_25 : decode cX10_race 25 = .ok (.ireturn, 1) := by decide +kernel
theorem dX10_race_26 : decode cX10_race 26 = .ok (.iload_n 2, 1) := by decide +kernel
theorem dX10_race_27 : decode cX10_race 27 = .ok (.istore 6, 2) := by decide +kernel
theorem dX10_race_29 : decode cX10_race 29 = .ok (.iconst 0, 1) := by decide +kernel
theorem dX10_race_30 : decode cX10_race 30 = .ok (.istore 7, 2) := by decide +kernel
theorem dX10_race_32 : decode cX10_race 32 = .ok (.iload 7, 2) := by decide +kernel
theorem dX10_race_34 : decode cX10_race 34 = .ok (.bipush 64, 2) := by decide +kernel
theorem dX10_race_36 : decode cX10_race 36 = .ok (.if_icmp .ge 46, 3) := by decide +kernel
theorem dX10_race_39 : decode cX10_race 39 = .ok (.lload 4, 2) := by decide +kernel
theorem dX10_race_41 : decode cX10_race 41 = .ok (.iload 7, 2) := by decide +kernel
theorem dX10_race_43 : decode cX10_race 43 = .ok (.lushr, 1) := by decide +kernel
theorem dX10_race_44 : decode cX10_race 44 = .ok (.lconst 1, 1) := by decide +kernel
theorem dX10_race_45 : decode cX10_race 45 = .ok (.land, 1) := by decide +kernel
theorem dX10_race_46 : decode cX10_race 46 = .ok (.lconst 0, 1) := by decide +kernel
theorem dX10_race_47 : decode cX10_race 47 = .ok (.lcmp, 1) := by decide +kernel
theorem dX10_race_48 : decode cX10_race 48 = .ok (.ifCond .eq 28, 3) := by decide +kernel
theorem dX10_race_51 : decode cX10_race 51 = .ok (.iload 6, 2) := by decide +kernel
theorem dX10_race_53 : decode cX10_race 53 = .ok (.ifCond .ne 20, 3) := by decide +kernel
theorem dX10_race_56 : decode cX10_race 56 = .ok (.iload_n 3, 1) := by decide +kernel
theorem dX10_race_57 : decode cX10_race 57 = .ok (.ifCond .ne 10, 3) := by decide +kernel
theorem dX10_race_60 : decode cX10_race 60 = .ok (.iload 7, 2) := by decide +kernel
theorem dX10_race_62 : decode cX10_race 62 = .ok (.iconst 3, 1) := by decide +kernel
theorem dX10_race_63 : decode cX10_race 63 = .ok (.ishr, 1) := by decide +kernel
theorem dX10_race_64 : decode cX10_race 64 = .ok (.goto 8, 3) := by decide +kernel
theorem dX10_race_67 : decode cX10_race 67 = .ok (.iload 7, 2) := by decide +kernel
theorem dX10_race_69 : decode cX10_race 69 = .ok (.bipush 7, 2) := by decide +kernel
theorem dX10_race_71 : decode cX10_race 71 = .ok (.iand, 1) := by decide +kernel
theorem dX10_race_72 : decode cX10_race 72 = .ok (.ireturn, 1) := by decide +kernel
theorem dX10_race_73 : decode cX10_race 73 = .ok (.iinc 6 (-1), 3) := by decide +kernel
theorem dX10_race_76 : decode cX10_race 76 = .ok (.iinc 7 1, 3) := by decide +kernel
theorem dX10_race_79 : decode cX10_race 79 = .ok (.goto (-47), 3) := by decide +kernel
theorem dX10_race_82 : decode cX10_race 82 = .ok (.iconst (-1), 1) := by decide +kernel
theorem dX10_race_83 : decode cX10_race 83 = .ok (.ireturn, 1) := by decide +kernel
theorem dX10_races_0 : decode cX10_races 0 = .ok (.aload_n 0, 1) := by decide +kernel
theorem dX10_races_1 : decode cX10_races 1 = .ok (.aload_n 0, 1) := by decide +kernel
theorem dX10_races_2 : decode cX10_races 2 = .ok (.iload_n 1, 1) := by decide +kernel
theorem dX10_races_3 : decode cX10_races 3 = .ok (.invokevirtual 88, 3) := by decide +kernel
theorem dX10_races_6 : decode cX10_races 6 = .ok (.invokevirtual 178, 3) := by decide +kernel
theorem dX10_races_9 : decode cX10_races 9 = .ok (.invokestatic 182, 3) := by decide +kernel
theorem dX10_races_12 : decode cX10_races 12 = .ok (.ireturn, 1) := by decide +kernel
theorem dX10_same_0 : decode cX10_same 0 = .ok (.iload_n 1, 1) := by decide +kernel
theorem dX10_same_1 : decode cX10_same 1 = .ok (.invokestatic 70, 3) := by decide +kernel
theorem dX10_same_4 : decode cX10_same 4 = .ok (.iload_n 2, 1) := by decide +kernel
theorem dX10_same_5 : decode cX10_same 5 = .ok (.invokestatic 70, 3) := by decide +kernel
theorem dX10_same_8 : decode cX10_same 8 = .ok (.aload_n 0, 1) := by decide +kernel
theorem dX10_same_9 : decode cX10_same 9 = .ok (.getfield 46, 3) := by decide +kernel
theorem dX10_same_12 : decode cX10_same 12 = .ok (.aload_n 0, 1) := by decide +kernel
theorem dX10_same_13 : decode cX10_same 13 = .ok (.iload_n 1, 1) := by decide +kernel
theorem dX10_same_14 : decode cX10_same 14 = .ok (.invokevirtual 88, 3) := by decide +kernel
theorem dX10_same_17 : decode cX10_same 17 = .ok (.aload_n 0, 1) := by decide +kernel
theorem dX10_same_18 : decode cX10_same 18 = .ok (.iload_n 2, 1) := by decide +kernel
theorem dX10_same_19 : decode cX10_same 19 = .ok (.invokevirtual 88, 3) := by decide +kernel
theorem dX10_same_22 : decode cX10_same 22 = .ok (.invokevirtual 210, 3) := by decide +kernel
theorem dX10_same_25 : decode cX10_same 25 = .ok (.ireturn, 1) := by decide +kernel
theorem dX10_stuck_0 : decode cX10_stuck 0 = .ok (.aload_n 0, 1) := by decide +kernel
theorem dX10_stuck_1 : decode cX10_stuck 1 = .ok (.iload_n 1, 1) := by decide +kernel
theorem dX10_stuck_2 : decode cX10_stuck 2 = .ok (.invokevirtual 88, 3) := by decide +kernel
theorem dX10_stuck_5 : decode cX10_stuck 5 = .ok (.astore 4, 2) := by decide +kernel
theorem dX10_stuck_7 : decode cX10_stuck 7 = .ok (.iload_n 2, 1) := by decide +kernel
theorem dX10_stuck_8 : decode cX10_stuck 8 = .ok (.invokestatic 151, 3) := by decide +kernel
theorem dX10_stuck_11 : decode cX10_stuck 11 = .ok (.ifCond .ne 5, 3) := by decide +kernel
theorem dX10_stuck_14 : decode cX10_stuck 14 = .ok (.iconst (-1), 1) := by decide +kernel
theorem dX10_stuck_15 : decode cX10_stuck 15 = .ok (.ireturn, 1) := by decide +kernel
theorem dX10_stuck_16 : decode cX10_stuck 16 = .ok (.aload_n 0, 1) := by decide +kernel
theorem dX10_stuck_17 : decode cX10_stuck 17 = .ok (.aload 4, 2) := by decide +kernel
theorem dX10_stuck_19 : decode cX10_stuck 19 = .ok (.iload_n 2, 1) := by decide +kernel
theorem dX10_stuck_20 : decode cX10_stuck 20 = .ok (.invokevirtual 155, 3) := by decide +kernel
theorem dX10_stuck_23 : decode cX10_stuck 23 = .ok (.astore 5, 2) := by decide +kernel
theorem dX10_stuck_25 : decode cX10_stuck 25 = .ok (.iload_n 3, 1) := by decide +kernel
theorem dX10_stuck_26 : decode cX10_stuck 26 = .ok (.ifCond .lt 20, 3) := by decide +kernel
theorem dX10_stuck_29 : decode cX10_stuck 29 = .ok (.iload_n 3, 1) := by decide +kernel
theorem dX10_stuck_30 : decode cX10_stuck 30 = .ok (.aload 5, 2) := by decide +kernel
theorem dX10_stuck_32 : decode cX10_stuck 32 = .ok (.arraylength, 1) := by decide +kernel
theorem dX10_stuck_33 : decode cX10_stuck 33 = .ok (.if_icmp .ge 13, 3) := by decide +kernel
theorem dX10_stuck_36 : decode cX10_stuck 36 = .ok (.aload 5, 2) := by decide +kernel
theorem dX10_stuck_38 : decode cX10_stuck 38 = .ok (.iload_n 3, 1) := by decide +kernel
theorem dX10_stuck_39 : decode cX10_stuck 39 = .ok (.iaload, 1) := by decide +kernel
theorem dX10_stuck_40 : decode cX10_stuck 40 = .ok (.invokestatic 164, 3) := by decide +kernel
theorem dX10_stuck_43 : decode cX10_stuck 43 = .ok (.goto 4, 3) := by decide +kernel
theorem dX10_stuck_46 : decode cX10_stuck 46 = .ok (.iconst (-1), 1) := by decide +kernel
theorem dX10_stuck_47 : decode cX10_stuck 47 = .ok (.ireturn, 1) := by decide +kernel
theorem dX10_value_0 : decode cX10_value 0 = .ok (.aload_n 0, 1) := by decide +kernel
theorem dX10_value_1 : decode cX10_value 1 = .ok (.iload_n 1, 1) := by decide +kernel
theorem dX10_value_2 : decode cX10_value 2 = .ok (.invokevirtual 88, 3) := by decide +kernel
theorem dX10_value_5 : decode cX10_value 5 = .ok (.astore 5, 2) := by decide +kernel
theorem dX10_value_7 : decode cX10_value 7 = .ok (.iload_n 2, 1) := by decide +kernel
theorem dX10_value_8 : decode cX10_value 8 = .ok (.invokestatic 151, 3) := by decide +kernel
theorem dX10_value_11 : decode cX10_value 11 = .ok (.ifCond .eq 14, 3) := by decide +kernel
theorem dX10_value_14 : decode cX10_value 14 = .ok (.iload 4, 2) := by decide +kernel
theorem dX10_value_16 : decode cX10_value 16 = .ok (.ifCond .lt 9, 3) := by decide +kernel
theorem dX10_value_19 : decode cX10_value 19 = .ok (.iload 4, 2) := by decide +kernel
theorem dX10_value_21 : decode cX10_value 21 = .ok (.iconst 5, 1) := by decide +kernel
theorem dX10_value_22 : decode cX10_value 22 = .ok (.if_icmp .lt 5, 3) := by decide +kernel
theorem dX10_value_25 : decode cX10_value 25 = .ok (.iconst (-1), 1) := by decide +kernel
theorem dX10_value_26 : decode cX10_value 26 = .ok (.ireturn, 1) := by decide +kernel
theorem dX10_value_27 : decode cX10_value 27 = .ok (.aload_n 0, 1) := by decide +kernel
theorem dX10_value_28 : decode cX10_value 28 = .ok (.aload 5, 2) := by decide +kernel
theorem dX10_value_30 : decode cX10_value 30 = .ok (.iload_n 2, 1) := by decide +kernel
theorem dX10_value_31 : decode cX10_value 31 = .ok (.invokevirtual 155, 3) := by decide +kernel
theorem dX10_value_34 : decode cX10_value 34 = .ok (.astore 6, 2) := by decide +kernel
theorem dX10_value_36 : decode cX10_value 36 = .ok (.iload_n 3, 1) := by decide +kernel
theorem dX10_value_37 : decode cX10_value 37 = .ok (.ifCond .lt 22, 3) := by decide +kernel
theorem dX10_value_40 : decode cX10_value 40 = .ok (.iload_n 3, 1) := by decide +kernel
theorem dX10_value_41 : decode cX10_value 41 = .ok (.aload 6, 2) := by decide +kernel
theorem dX10_value_43 : decode cX10_value 43 = .ok (.arraylength, 1) := by decide +kernel
theorem dX10_value_44 : decode cX10_value 44 = .ok (.if_icmp .ge 15, 3) := by decide +kernel
theorem dX10_value_47 : decode cX10_value 47 = .ok (.aload 6, 2) := by decide +kernel
theorem dX10_value_49 : decode cX10_value 49 = .ok (.iload_n 3, 1) := by decide +kernel
theorem dX10_value_50 : decode cX10_value 50 = .ok (.iaload, 1) := by decide +kernel
theorem dX10_value_51 : decode cX10_value 51 = .ok (.iload 4, 2) := by decide +kernel
theorem dX10_value_53 : decode cX10_value 53 = .ok (.invokestatic 159, 3) := by decide +kernel
theorem dX10_value_56 : decode cX10_value 56 = .ok (.goto 4, 3) := by decide +kernel
theorem dX10_value_59 : decode cX10_value 59 = .ok (.iconst (-1), 1) := by decide +kernel
theorem dX10_value_60 : decode cX10_value 60 = .ok (.ireturn, 1) := by decide +kernel
theorem dX10_witness_0 : decode cX10_witness 0 = .ok (.aload_n 0, 1) := by decide +kernel
theorem dX10_witness_1 : decode cX10_witness 1 = .ok (.getfield 39, 3) := by decide +kernel
theorem dX10_witness_4 : decode cX10_witness 4 = .ok (.aload_n 0, 1) := by decide +kernel
theorem dX10_witness_5 : decode cX10_witness 5 = .ok (.iload_n 1, 1) := by decide +kernel
theorem dX10_witness_6 : decode cX10_witness 6 = .ok (.invokevirtual 88, 3) := by decide +kernel
theorem dX10_witness_9 : decode cX10_witness 9 = .ok (.aload_n 0, 1) := by decide +kernel
theorem dX10_witness_10 : decode cX10_witness 10 = .ok (.getfield 19, 3) := by decide +kernel
theorem dX10_witness_13 : decode cX10_witness 13 = .ok (.invokevirtual 171, 3) := by decide +kernel
theorem dX10_witness_16 : decode cX10_witness 16 = .ok (.ireturn, 1) := by decide +kernel
theorem kn_X10_demandPlace : Kn yX10_demandPlace cX10_demandPlace 1 none 1 := ⟨wm_1157, wm_90, by decide +kernel, by decide⟩
theorem kn_X10_programAt : Kn yX10_programAt cX10_programAt 3 (some (.object "LitmusHouse$Program")) 1 := ⟨wm_1158, wm_90, by decide +kernel, by decide⟩
theorem kn_X10_action : Kn yX10_action cX10_action 6 (some .int) 3 := ⟨wm_1161, wm_90, by decide +kernel, by decide⟩
theorem kn_X10_allowed : Kn yX10_allowed cX10_allowed 7 (some .int) 2 := ⟨wm_1172, wm_90, by decide +kernel, by decide⟩
theorem kn_X10_before : Kn yX10_before cX10_before 8 (some .int) 3 := ⟨wm_1179, wm_90, by decide +kernel, by decide⟩
theorem kn_X10_drop : Kn yX10_drop cX10_drop 3 (some .boolean) 1 := ⟨wm_1183, wm_90, by decide +kernel, by decide⟩
theorem kn_X10_fence : Kn yX10_fence cX10_fence 8 (some .int) 2 := ⟨wm_1184, wm_90, by decide +kernel, by decide⟩
theorem kn_X10_kind : Kn yX10_kind cX10_kind 4 (some .int) 2 := ⟨wm_1193, wm_90, by decide +kernel, by decide⟩
theorem kn_X10_load : Kn yX10_load cX10_load 3 (some .int) 1 := ⟨wm_1195, wm_90, by decide +kernel, by decide⟩
theorem kn_X10_look : Kn yX10_look cX10_look 5 (some .int) 2 := ⟨wm_1201, wm_90, by decide +kernel, by decide⟩
theorem kn_X10_make : Kn yX10_make cX10_make 5 (some .int) 3 := ⟨wm_1208, wm_90, by decide +kernel, by decide⟩
theorem kn_X10_outcomes : Kn yX10_outcomes cX10_outcomes 4 (some .int) 2 := ⟨wm_1212, wm_90, by decide +kernel, by decide⟩
theorem kn_X10_print : Kn yX10_print cX10_print 2 (some .int) 1 := ⟨wm_1213, wm_90, by decide +kernel, by decide⟩
theorem kn_X10_race : Kn yX10_race cX10_race 8 (some .int) 3 := ⟨wm_1217, wm_90, by decide +kernel, by decide⟩
theorem kn_X10_races : Kn yX10_races cX10_races 2 (some .int) 1 := ⟨wm_1221, wm_90, by decide +kernel, by decide⟩
theorem kn_X10_same : Kn yX10_same cX10_same 3 (some .boolean) 2 := ⟨wm_1224, wm_90, by decide +kernel, by decide⟩
theorem kn_X10_stuck : Kn yX10_stuck cX10_stuck 6 (some .int) 3 := ⟨wm_1228, wm_90, by decide +kernel, by decide⟩
theorem kn_X10_value : Kn yX10_value cX10_value 7 (some .int) 4 := ⟨wm_1231, wm_90, by decide +kernel, by decide⟩
theorem kn_X10_witness : Kn yX10_witness cX10_witness 2 (some .int) 1 := ⟨wm_1233, wm_90, by decide +kernel, by decide⟩
/-! ===== LitmusHouse.demandPlace(I)V ===== -/
def b_X10_demandPlace_10  (h : AH) : Option (AH) :=
  none
set_option maxHeartbeats 4000000 in
set_option maxRecDepth 100000 in
theorem q_X10_demandPlace_10 {h hE : AH} (hf : b_X10_demandPlace_10  h = some hE) : JD cX10_demandPlace 1 RX10 "demandPlace" none (2) 10 [] [] h hE none := by
  unfold b_X10_demandPlace_10 at hf
  cases hf
def b_X10_demandPlace_20  (h : AH) : Option (AH) :=
  some h
set_option maxHeartbeats 4000000 in
set_option maxRecDepth 100000 in
theorem q_X10_demandPlace_20 {h hE : AH} (hf : b_X10_demandPlace_20  h = some hE) : JD cX10_demandPlace 1 RX10 "demandPlace" none (2) 20 [] [] h hE none := by
  unfold b_X10_demandPlace_20 at hf
  have hh := Option.some.inj hf
  subst hh
  have mE : hp_n h ≤ hp_n h ∧ hp_s h ≤ hp_s h := ⟨Nat.le_refl _, Nat.le_refl _⟩
  refine ⟨by omega, fun X g K ok nmx lev hK en => ?_⟩
  exact tj_return ok en dX10_demandPlace_20
def b_X10_demandPlace_4 (a0 : Int32) (h : AH) : Option (AH) :=
  if a0 < (8 : Int32) then b_X10_demandPlace_20 h else b_X10_demandPlace_10 h
set_option maxHeartbeats 4000000 in
set_option maxRecDepth 100000 in
theorem q_X10_demandPlace_4 {a0 : Int32} {h hE : AH} (hf : b_X10_demandPlace_4 a0 h = some hE) : JD cX10_demandPlace 1 RX10 "demandPlace" none (2) 4 [(0, .inl (a0))] [] h hE none := by
  unfold b_X10_demandPlace_4 at hf
  have mE : hp_n h ≤ hp_n hE ∧ hp_s h ≤ hp_s hE := by
    by_cases hc : a0 < (8 : Int32)
    · rw [if_pos hc] at hf; exact (q_X10_demandPlace_20 hf).1
    · rw [if_neg hc] at hf; exact (q_X10_demandPlace_10 hf).1
  refine ⟨by omega, fun X g K ok nmx lev hK en => ?_⟩
  refine tj_iload_n ok 0 dX10_demandPlace_4 rfl rfl ?_
  refine tj_bipush (v := 8) ok dX10_demandPlace_5 (by decide) ?_
  refine tj_icmp_lt (tgt := 20) ok dX10_demandPlace_7 (by decide) (fun hc => ?_) (fun hc => ?_)
  · rw [if_pos hc] at hf
    refine tj_sub (lv' := []) [] rfl ?_
    exact (q_X10_demandPlace_20 hf).2 X g K ok nmx lev hK en
  · rw [if_neg hc] at hf
    refine tj_sub (lv' := []) [] rfl ?_
    exact (q_X10_demandPlace_10 hf).2 X g K ok nmx lev hK en
def b_X10_demandPlace_0 (a0 : Int32) (h : AH) : Option (AH) :=
  if a0 < 0 then b_X10_demandPlace_10 h else b_X10_demandPlace_4 a0 h
set_option maxHeartbeats 4000000 in
set_option maxRecDepth 100000 in
theorem q_X10_demandPlace_0 {a0 : Int32} {h hE : AH} (hf : b_X10_demandPlace_0 a0 h = some hE) : JD cX10_demandPlace 1 RX10 "demandPlace" none (2) 0 [(0, .inl (a0))] [] h hE none := by
  unfold b_X10_demandPlace_0 at hf
  have mE : hp_n h ≤ hp_n hE ∧ hp_s h ≤ hp_s hE := by
    by_cases hc : a0 < 0
    · rw [if_pos hc] at hf; exact (q_X10_demandPlace_10 hf).1
    · rw [if_neg hc] at hf; exact (q_X10_demandPlace_4 hf).1
  refine ⟨by omega, fun X g K ok nmx lev hK en => ?_⟩
  refine tj_iload_n ok 0 dX10_demandPlace_0 rfl rfl ?_
  refine tj_if_lt (tgt := 10) ok dX10_demandPlace_1 (by decide) (fun hc => ?_) (fun hc => ?_)
  · rw [if_pos hc] at hf
    refine tj_sub (lv' := []) [] rfl ?_
    exact (q_X10_demandPlace_10 hf).2 X g K ok nmx lev hK en
  · rw [if_neg hc] at hf
    exact (q_X10_demandPlace_4 hf).2 X g K ok nmx lev hK en
def f_X10_demandPlace (a0 : Int32) (h : AH) : Option (AH) := b_X10_demandPlace_0  a0 h
theorem c_X10_demandPlace {a0 : Int32} {h hE : AH} (hf : f_X10_demandPlace a0 h = some hE) : ∀ g : GT, CM g (2) yX10_demandPlace cX10_demandPlace 1 none h [.inl (a0)] hE none :=
  CM.ofJ (by decide) (by show _ ≤ 1; exact Nat.le_of_ble_eq_true rfl) (q_X10_demandPlace_0 hf)
/-! ===== LitmusHouse.programAt(I)LLitmusHouse$Program; ===== -/
def b_X10_programAt_25 (a2 : Nat) (h : AH) : Option (Nat × AH) :=
  some (a2, h)
set_option maxHeartbeats 4000000 in
set_option maxRecDepth 100000 in
theorem q_X10_programAt_25 {a2 : Nat} {h hE : AH} {v : Nat} (hf : b_X10_programAt_25 a2 h = some (v, hE)) : JD cX10_programAt 3 RX10 "programAt" (some (.object "LitmusHouse$Program")) (3) 25 [(2, .inr (.inr (a2)))] [] h hE (some (.inr (.inr (v)))) := by
  unfold b_X10_programAt_25 at hf
  obtain ⟨hv, hh⟩ := Prod.mk.inj (Option.some.inj hf)
  subst hv
  subst hh
  have mE : hp_n h ≤ hp_n h ∧ hp_s h ≤ hp_s h := ⟨Nat.le_refl _, Nat.le_refl _⟩
  refine ⟨by omega, fun X g K ok nmx lev hK en => ?_⟩
  refine tj_aload_n ok 0 dX10_programAt_25 rfl rfl ?_
  exact tj_areturn ok (Or.inl ⟨_, rfl⟩) en dX10_programAt_26
def b_X10_programAt_15  (h : AH) : Option (Nat × AH) :=
  none
set_option maxHeartbeats 4000000 in
set_option maxRecDepth 100000 in
theorem q_X10_programAt_15 {h hE : AH} {v : Nat} (hf : b_X10_programAt_15  h = some (v, hE)) : JD cX10_programAt 3 RX10 "programAt" (some (.object "LitmusHouse$Program")) (3) 15 [] [] h hE (some (.inr (.inr (v)))) := by
  unfold b_X10_programAt_15 at hf
  cases hf
def b_X10_programAt_0 (a0 : Nat) (a1 : Int32) (h : AH) : Option (Nat × AH) :=
  (f_X10_demandPlace a1 h).bind fun h1 => (g_r h1 a0 10 1).bind fun x2 => (l_r h1 x2 a1).bind fun x3 => if x3 = 0 then b_X10_programAt_15 h1 else b_X10_programAt_25 x3 h1
set_option maxHeartbeats 4000000 in
set_option maxRecDepth 100000 in
theorem q_X10_programAt_0 {a0 : Nat} {a1 : Int32} {h hE : AH} {v : Nat} (hf : b_X10_programAt_0 a0 a1 h = some (v, hE)) : JD cX10_programAt 3 RX10 "programAt" (some (.object "LitmusHouse$Program")) (3) 0 [(0, .inr (.inr (a0))), (1, .inl (a1))] [] h hE (some (.inr (.inr (v)))) := by
  unfold b_X10_programAt_0 at hf
  obtain ⟨h1, e1, hf⟩ := bnd hf
  have k1 := c_X10_demandPlace e1
  have m1 := (k1 default_g).1
  obtain ⟨x2, e2, hf⟩ := bnd hf
  obtain ⟨x3, e3, hf⟩ := bnd hf
  have mE : hp_n h1 ≤ hp_n hE ∧ hp_s h1 ≤ hp_s hE := by
    by_cases hc : x3 = 0
    · rw [if_pos hc] at hf; exact (q_X10_programAt_15 hf).1
    · rw [if_neg hc] at hf; exact (q_X10_programAt_25 hf).1
  refine ⟨by omega, fun X g K ok nmx lev hK en => ?_⟩
  refine tj_iload_n ok 1 dX10_programAt_0 rfl rfl ?_
  refine tj_callS (rest := ([] : List TV).map (vl g)) (as := [.inl (a1)]) ok lev (by omega) (k1 g) (CaX.of en (by omega)) kn_X10_demandPlace wm_1159 wm_1160 (rs_ok (Nat.le_of_ble_eq_true rfl)) rfl rfl dX10_programAt_1 ?_
  refine tj_aload_n ok 0 dX10_programAt_4 rfl rfl ?_
  refine tj_getR (k := 1) ok fcX10 (by decide) wm_199 rfl (Or.inr ⟨_, rfl⟩) dX10_programAt_5 e2 ?_
  refine tj_iload_n ok 1 dX10_programAt_8 rfl rfl ?_
  refine tj_aaload ok dX10_programAt_9 e3 ?_
  refine tj_astore_n (lv' := [(0, .inr (.inr (a0))), (1, .inl (a1)), (2, .inr (.inr (x3)))]) ok dX10_programAt_10 rfl (by decide) rfl ?_
  refine tj_aload_n ok 2 dX10_programAt_11 rfl rfl ?_
  refine tj_ifnonnull (tgt := 25) ok dX10_programAt_12 (by decide) (fun hc => ?_) (fun hc => ?_)
  · rw [if_neg hc] at hf
    refine tj_sub (lv' := [(2, .inr (.inr (x3)))]) [2] rfl ?_
    exact (q_X10_programAt_25 hf).2 X g K ok nmx lev hK en
  · rw [if_pos hc] at hf
    refine tj_sub (lv' := []) [] rfl ?_
    exact (q_X10_programAt_15 hf).2 X g K ok nmx lev hK en
def f_X10_programAt (a0 : Nat) (a1 : Int32) (h : AH) : Option (Nat × AH) := b_X10_programAt_0  a0 a1 h
theorem c_X10_programAt {a0 : Nat} {a1 : Int32} {h hE : AH} {v : Nat} (hf : f_X10_programAt a0 a1 h = some (v, hE)) : ∀ g : GT, CM g (3) yX10_programAt cX10_programAt 3 (some (.object "LitmusHouse$Program")) h [.inr (.inr (a0)), .inl (a1)] hE (some (.inr (.inr (v)))) :=
  CM.ofJ (by decide) (by show _ ≤ 3; exact Nat.le_of_ble_eq_true rfl) (q_X10_programAt_0 hf)
set_option maxHeartbeats 4000000 in
set_option maxRecDepth 100000 in
theorem t_X10_programAt_0 {a0 : Nat} {a1 : Int32} {h hE : AH} {E : Nat} (hx : ∀ g : GT, CT g 8 yX10_demandPlace cX10_demandPlace 1 none h [.inl (a1)] hE E) : ∀ g : GT, CT g 10 yX10_programAt cX10_programAt 3 (some (.object "LitmusHouse$Program")) h [.inr (.inr (a0)), .inl (a1)] hE E := by
  intro g
  have mE := (hx g).1
  refine CT.of (by decide) (by show _ ≤ 3; exact Nat.le_of_ble_eq_true rfl) (by omega) (fun X ok nmx lev th => ?_)
  refine tj_iload_n ok 1 dX10_programAt_0 rfl rfl ?_
  exact tj_xS (rest := ([] : List TV).map (vl g)) (as := [.inl (a1)]) ok lev (by omega) (hx g) th kn_X10_demandPlace wm_1159 wm_1160 (rs_ok (Nat.le_of_ble_eq_true rfl)) rfl dX10_programAt_1
/-! ===== LitmusHouse.action(III)I ===== -/
def b_X10_action_29  (h : AH) : Option (Int32 × AH) :=
  some ((-1 : Int32), h)
set_option maxHeartbeats 4000000 in
set_option maxRecDepth 100000 in
theorem q_X10_action_29 {h hE : AH} {v : Int32} (hf : b_X10_action_29  h = some (v, hE)) : JD cX10_action 6 RX10 "action" (some .int) (4) 29 [] [] h hE (some (.inl (v))) := by
  unfold b_X10_action_29 at hf
  obtain ⟨hv, hh⟩ := Prod.mk.inj (Option.some.inj hf)
  subst hv
  subst hh
  have mE : hp_n h ≤ hp_n h ∧ hp_s h ≤ hp_s h := ⟨Nat.le_refl _, Nat.le_refl _⟩
  refine ⟨by omega, fun X g K ok nmx lev hK en => ?_⟩
  refine tj_iconst (v := -1) ok dX10_action_29 (by decide) ?_
  exact tj_ireturn ok en dX10_action_30
def b_X10_action_76 (a2 : Int32) (a4 : Nat) (h : AH) : Option (Int32 × AH) :=
  (g_r h a4 0 9).bind fun x1 => (l_i h x1 a2).bind fun x2 => some (x2, h)
set_option maxHeartbeats 4000000 in
set_option maxRecDepth 100000 in
theorem q_X10_action_76 {a2 : Int32} {a4 : Nat} {h hE : AH} {v : Int32} (hf : b_X10_action_76 a2 a4 h = some (v, hE)) : JD cX10_action 6 RX10 "action" (some .int) (4) 76 [(2, .inl (a2)), (4, .inr (.inr (a4)))] [] h hE (some (.inl (v))) := by
  unfold b_X10_action_76 at hf
  obtain ⟨x1, e1, hf⟩ := bnd hf
  obtain ⟨x2, e2, hf⟩ := bnd hf
  obtain ⟨hv, hh⟩ := Prod.mk.inj (Option.some.inj hf)
  subst hv
  subst hh
  have mE : hp_n h ≤ hp_n h ∧ hp_s h ≤ hp_s h := ⟨Nat.le_refl _, Nat.le_refl _⟩
  refine ⟨by omega, fun X g K ok nmx lev hK en => ?_⟩
  refine tj_aload ok 1 dX10_action_76 rfl ?_
  refine tj_getR (k := 9) ok fcX0 (by decide) wm_1162 rfl (Or.inr ⟨_, rfl⟩) dX10_action_78 e1 ?_
  refine tj_iload_n ok 0 dX10_action_81 rfl rfl ?_
  refine tj_iaload ok dX10_action_82 e2 ?_
  exact tj_ireturn ok en dX10_action_83
def b_X10_action_84 (a4 : Nat) (a5 : Int32) (h : AH) : Option (Int32 × AH) :=
  (g_r h a4 0 0).bind fun x1 => (l_i h x1 a5).bind fun x2 => some (x2, h)
set_option maxHeartbeats 4000000 in
set_option maxRecDepth 100000 in
theorem q_X10_action_84 {a4 : Nat} {a5 : Int32} {h hE : AH} {v : Int32} (hf : b_X10_action_84 a4 a5 h = some (v, hE)) : JD cX10_action 6 RX10 "action" (some .int) (4) 84 [(4, .inr (.inr (a4))), (5, .inl (a5))] [] h hE (some (.inl (v))) := by
  unfold b_X10_action_84 at hf
  obtain ⟨x1, e1, hf⟩ := bnd hf
  obtain ⟨x2, e2, hf⟩ := bnd hf
  obtain ⟨hv, hh⟩ := Prod.mk.inj (Option.some.inj hf)
  subst hv
  subst hh
  have mE : hp_n h ≤ hp_n h ∧ hp_s h ≤ hp_s h := ⟨Nat.le_refl _, Nat.le_refl _⟩
  refine ⟨by omega, fun X g K ok nmx lev hK en => ?_⟩
  refine tj_aload ok 0 dX10_action_84 rfl ?_
  refine tj_getR (k := 0) ok fcX0 (by decide) wm_1163 rfl (Or.inr ⟨_, rfl⟩) dX10_action_86 e1 ?_
  refine tj_iload ok 1 dX10_action_89 rfl ?_
  refine tj_iaload ok dX10_action_91 e2 ?_
  exact tj_ireturn ok en dX10_action_92
def b_X10_action_93 (a4 : Nat) (a5 : Int32) (h : AH) : Option (Int32 × AH) :=
  (g_r h a4 0 4).bind fun x1 => (l_i h x1 a5).bind fun x2 => some (x2, h)
set_option maxHeartbeats 4000000 in
set_option maxRecDepth 100000 in
theorem q_X10_action_93 {a4 : Nat} {a5 : Int32} {h hE : AH} {v : Int32} (hf : b_X10_action_93 a4 a5 h = some (v, hE)) : JD cX10_action 6 RX10 "action" (some .int) (4) 93 [(4, .inr (.inr (a4))), (5, .inl (a5))] [] h hE (some (.inl (v))) := by
  unfold b_X10_action_93 at hf
  obtain ⟨x1, e1, hf⟩ := bnd hf
  obtain ⟨x2, e2, hf⟩ := bnd hf
  obtain ⟨hv, hh⟩ := Prod.mk.inj (Option.some.inj hf)
  subst hv
  subst hh
  have mE : hp_n h ≤ hp_n h ∧ hp_s h ≤ hp_s h := ⟨Nat.le_refl _, Nat.le_refl _⟩
  refine ⟨by omega, fun X g K ok nmx lev hK en => ?_⟩
  refine tj_aload ok 0 dX10_action_93 rfl ?_
  refine tj_getR (k := 4) ok fcX0 (by decide) wm_1164 rfl (Or.inr ⟨_, rfl⟩) dX10_action_95 e1 ?_
  refine tj_iload ok 1 dX10_action_98 rfl ?_
  refine tj_iaload ok dX10_action_100 e2 ?_
  exact tj_ireturn ok en dX10_action_101
def b_X10_action_102 (a4 : Nat) (a5 : Int32) (h : AH) : Option (Int32 × AH) :=
  (g_r h a4 0 1).bind fun x1 => (l_i h x1 a5).bind fun x2 => some (x2, h)
set_option maxHeartbeats 4000000 in
set_option maxRecDepth 100000 in
theorem q_X10_action_102 {a4 : Nat} {a5 : Int32} {h hE : AH} {v : Int32} (hf : b_X10_action_102 a4 a5 h = some (v, hE)) : JD cX10_action 6 RX10 "action" (some .int) (4) 102 [(4, .inr (.inr (a4))), (5, .inl (a5))] [] h hE (some (.inl (v))) := by
  unfold b_X10_action_102 at hf
  obtain ⟨x1, e1, hf⟩ := bnd hf
  obtain ⟨x2, e2, hf⟩ := bnd hf
  obtain ⟨hv, hh⟩ := Prod.mk.inj (Option.some.inj hf)
  subst hv
  subst hh
  have mE : hp_n h ≤ hp_n h ∧ hp_s h ≤ hp_s h := ⟨Nat.le_refl _, Nat.le_refl _⟩
  refine ⟨by omega, fun X g K ok nmx lev hK en => ?_⟩
  refine tj_aload ok 0 dX10_action_102 rfl ?_
  refine tj_getR (k := 1) ok fcX0 (by decide) wm_1165 rfl (Or.inr ⟨_, rfl⟩) dX10_action_104 e1 ?_
  refine tj_iload ok 1 dX10_action_107 rfl ?_
  refine tj_iaload ok dX10_action_109 e2 ?_
  exact tj_ireturn ok en dX10_action_110
def b_X10_action_111  (h : AH) : Option (Int32 × AH) :=
  some ((-1 : Int32), h)
set_option maxHeartbeats 4000000 in
set_option maxRecDepth 100000 in
theorem q_X10_action_111 {h hE : AH} {v : Int32} (hf : b_X10_action_111  h = some (v, hE)) : JD cX10_action 6 RX10 "action" (some .int) (4) 111 [] [] h hE (some (.inl (v))) := by
  unfold b_X10_action_111 at hf
  obtain ⟨hv, hh⟩ := Prod.mk.inj (Option.some.inj hf)
  subst hv
  subst hh
  have mE : hp_n h ≤ hp_n h ∧ hp_s h ≤ hp_s h := ⟨Nat.le_refl _, Nat.le_refl _⟩
  refine ⟨by omega, fun X g K ok nmx lev hK en => ?_⟩
  refine tj_iconst (v := -1) ok dX10_action_111 (by decide) ?_
  exact tj_ireturn ok en dX10_action_112
def b_X10_action_31 (a2 : Int32) (a3 : Int32) (a4 : Nat) (h : AH) : Option (Int32 × AH) :=
  (g_r h a4 0 8).bind fun x1 => (l_i h x1 a2).bind fun x2 => if a3 = 0 then b_X10_action_76 a2 a4 h else if a3 = 1 then b_X10_action_84 a4 (x2 &&& (63 : Int32)) h else if a3 = 2 then b_X10_action_93 a4 (x2 &&& (63 : Int32)) h else if a3 = 3 then b_X10_action_102 a4 (x2 &&& (63 : Int32)) h else b_X10_action_111 h
set_option maxHeartbeats 4000000 in
set_option maxRecDepth 100000 in
theorem q_X10_action_31 {a2 : Int32} {a3 : Int32} {a4 : Nat} {h hE : AH} {v : Int32} (hf : b_X10_action_31 a2 a3 a4 h = some (v, hE)) : JD cX10_action 6 RX10 "action" (some .int) (4) 31 [(2, .inl (a2)), (3, .inl (a3)), (4, .inr (.inr (a4)))] [] h hE (some (.inl (v))) := by
  unfold b_X10_action_31 at hf
  obtain ⟨x1, e1, hf⟩ := bnd hf
  obtain ⟨x2, e2, hf⟩ := bnd hf
  have mE : hp_n h ≤ hp_n hE ∧ hp_s h ≤ hp_s hE := by
    by_cases hc0 : a3 = 0
    · rw [if_pos hc0] at hf; exact (q_X10_action_76 hf).1
    rw [if_neg hc0] at hf
    by_cases hc1 : a3 = 1
    · rw [if_pos hc1] at hf; exact (q_X10_action_84 hf).1
    rw [if_neg hc1] at hf
    by_cases hc2 : a3 = 2
    · rw [if_pos hc2] at hf; exact (q_X10_action_93 hf).1
    rw [if_neg hc2] at hf
    by_cases hc3 : a3 = 3
    · rw [if_pos hc3] at hf; exact (q_X10_action_102 hf).1
    rw [if_neg hc3] at hf
    exact (q_X10_action_111 hf).1
  refine ⟨by omega, fun X g K ok nmx lev hK en => ?_⟩
  refine tj_aload ok 2 dX10_action_31 rfl ?_
  refine tj_getR (k := 8) ok fcX0 (by decide) wm_1166 rfl (Or.inr ⟨_, rfl⟩) dX10_action_33 e1 ?_
  refine tj_iload_n ok 0 dX10_action_36 rfl rfl ?_
  refine tj_iaload ok dX10_action_37 e2 ?_
  refine tj_bipush (v := 63) ok dX10_action_38 (by decide) ?_
  refine tj_iand ok dX10_action_40 ?_
  refine tj_istore (lv' := [(2, .inl (a2)), (3, .inl (a3)), (4, .inr (.inr (a4))), (5, .inl (x2 &&& (63 : Int32)))]) ok dX10_action_41 (by decide) rfl ?_
  refine tj_iload_n ok 1 dX10_action_43 rfl rfl ?_
  by_cases hc0 : a3 = 0
  · rw [if_pos hc0] at hf
    have hx : (a3).toInt = 0 := by rw [hc0]; decide
    refine tj_tabIn (off := 32) (tgt := 76) ok dX10_action_44 (by rw [hx]; decide) (by rw [hx]; decide) (by rw [hx]; decide) (by decide) ?_
    refine tj_sub (lv' := [(2, .inl (a2)), (4, .inr (.inr (a4)))]) [0, 2] rfl ?_
    exact (q_X10_action_76 hf).2 X g K ok nmx lev hK en
  rw [if_neg hc0] at hf
  have hn0 := tn_i (n := 0) (by decide) hc0
  have hp0 := tn_j hn0
  by_cases hc1 : a3 = 1
  · rw [if_pos hc1] at hf
    have hx : (a3).toInt = 1 := by rw [hc1]; decide
    refine tj_tabIn (off := 40) (tgt := 84) ok dX10_action_44 (by rw [hx]; decide) (by rw [hx]; decide) (by rw [hx]; decide) (by decide) ?_
    refine tj_sub (lv' := [(4, .inr (.inr (a4))), (5, .inl (x2 &&& (63 : Int32)))]) [2, 3] rfl ?_
    exact (q_X10_action_84 hf).2 X g K ok nmx lev hK en
  rw [if_neg hc1] at hf
  have hn1 := tn_i (n := 1) (by decide) hc1
  have hp1 := tn_j hn1
  by_cases hc2 : a3 = 2
  · rw [if_pos hc2] at hf
    have hx : (a3).toInt = 2 := by rw [hc2]; decide
    refine tj_tabIn (off := 49) (tgt := 93) ok dX10_action_44 (by rw [hx]; decide) (by rw [hx]; decide) (by rw [hx]; decide) (by decide) ?_
    refine tj_sub (lv' := [(4, .inr (.inr (a4))), (5, .inl (x2 &&& (63 : Int32)))]) [2, 3] rfl ?_
    exact (q_X10_action_93 hf).2 X g K ok nmx lev hK en
  rw [if_neg hc2] at hf
  have hn2 := tn_i (n := 2) (by decide) hc2
  have hp2 := tn_j hn2
  by_cases hc3 : a3 = 3
  · rw [if_pos hc3] at hf
    have hx : (a3).toInt = 3 := by rw [hc3]; decide
    refine tj_tabIn (off := 58) (tgt := 102) ok dX10_action_44 (by rw [hx]; decide) (by rw [hx]; decide) (by rw [hx]; decide) (by decide) ?_
    refine tj_sub (lv' := [(4, .inr (.inr (a4))), (5, .inl (x2 &&& (63 : Int32)))]) [2, 3] rfl ?_
    exact (q_X10_action_102 hf).2 X g K ok nmx lev hK en
  rw [if_neg hc3] at hf
  have hn3 := tn_i (n := 3) (by decide) hc3
  have hp3 := tn_j hn3
  refine tj_tabOut (tgt := 111) ok dX10_action_44 (by omega) (by decide) ?_
  refine tj_sub (lv' := []) [] rfl ?_
  exact (q_X10_action_111 hf).2 X g K ok nmx lev hK en
def b_X10_action_23 (a2 : Int32) (a3 : Int32) (a4 : Nat) (h : AH) : Option (Int32 × AH) :=
  if a2 < (8 : Int32) then b_X10_action_31 a2 a3 a4 h else b_X10_action_29 h
set_option maxHeartbeats 4000000 in
set_option maxRecDepth 100000 in
theorem q_X10_action_23 {a2 : Int32} {a3 : Int32} {a4 : Nat} {h hE : AH} {v : Int32} (hf : b_X10_action_23 a2 a3 a4 h = some (v, hE)) : JD cX10_action 6 RX10 "action" (some .int) (4) 23 [(2, .inl (a2)), (3, .inl (a3)), (4, .inr (.inr (a4)))] [] h hE (some (.inl (v))) := by
  unfold b_X10_action_23 at hf
  have mE : hp_n h ≤ hp_n hE ∧ hp_s h ≤ hp_s hE := by
    by_cases hc : a2 < (8 : Int32)
    · rw [if_pos hc] at hf; exact (q_X10_action_31 hf).1
    · rw [if_neg hc] at hf; exact (q_X10_action_29 hf).1
  refine ⟨by omega, fun X g K ok nmx lev hK en => ?_⟩
  refine tj_iload_n ok 0 dX10_action_23 rfl rfl ?_
  refine tj_bipush (v := 8) ok dX10_action_24 (by decide) ?_
  refine tj_icmp_lt (tgt := 31) ok dX10_action_26 (by decide) (fun hc => ?_) (fun hc => ?_)
  · rw [if_pos hc] at hf
    exact (q_X10_action_31 hf).2 X g K ok nmx lev hK en
  · rw [if_neg hc] at hf
    refine tj_sub (lv' := []) [] rfl ?_
    exact (q_X10_action_29 hf).2 X g K ok nmx lev hK en
def b_X10_action_14 (a2 : Int32) (a3 : Int32) (a4 : Nat) (h : AH) : Option (Int32 × AH) :=
  (g_i h a4 0 12).bind fun x1 => if x1 ≤ a2 then b_X10_action_29 h else b_X10_action_23 a2 a3 a4 h
set_option maxHeartbeats 4000000 in
set_option maxRecDepth 100000 in
theorem q_X10_action_14 {a2 : Int32} {a3 : Int32} {a4 : Nat} {h hE : AH} {v : Int32} (hf : b_X10_action_14 a2 a3 a4 h = some (v, hE)) : JD cX10_action 6 RX10 "action" (some .int) (4) 14 [(2, .inl (a2)), (3, .inl (a3)), (4, .inr (.inr (a4)))] [] h hE (some (.inl (v))) := by
  unfold b_X10_action_14 at hf
  obtain ⟨x1, e1, hf⟩ := bnd hf
  have mE : hp_n h ≤ hp_n hE ∧ hp_s h ≤ hp_s hE := by
    by_cases hc : x1 ≤ a2
    · rw [if_pos hc] at hf; exact (q_X10_action_29 hf).1
    · rw [if_neg hc] at hf; exact (q_X10_action_23 hf).1
  refine ⟨by omega, fun X g K ok nmx lev hK en => ?_⟩
  refine tj_iload_n ok 0 dX10_action_14 rfl rfl ?_
  refine tj_aload ok 2 dX10_action_15 rfl ?_
  refine tj_getI (k := 12) ok fcX0 (by decide) wm_1167 rfl (Or.inl rfl) dX10_action_17 e1 ?_
  refine tj_icmp_ge (tgt := 29) ok dX10_action_20 (by decide) (fun hc => ?_) (fun hc => ?_)
  · rw [if_pos hc] at hf
    refine tj_sub (lv' := []) [] rfl ?_
    exact (q_X10_action_29 hf).2 X g K ok nmx lev hK en
  · rw [if_neg hc] at hf
    exact (q_X10_action_23 hf).2 X g K ok nmx lev hK en
def b_X10_action_0 (a0 : Nat) (a1 : Int32) (a2 : Int32) (a3 : Int32) (h : AH) : Option (Int32 × AH) :=
  (ok_v h a0 10).bind fun x1 => (f_X10_programAt a0 a1 h).bind fun q2 => (g_r q2.2 q2.1 5 0).bind fun x3 => if a2 < 0 then b_X10_action_29 q2.2 else b_X10_action_14 a2 a3 x3 q2.2
set_option maxHeartbeats 4000000 in
set_option maxRecDepth 100000 in
theorem q_X10_action_0 {a0 : Nat} {a1 : Int32} {a2 : Int32} {a3 : Int32} {h hE : AH} {v : Int32} (hf : b_X10_action_0 a0 a1 a2 a3 h = some (v, hE)) : JD cX10_action 6 RX10 "action" (some .int) (4) 0 [(0, .inr (.inr (a0))), (1, .inl (a1)), (2, .inl (a2)), (3, .inl (a3))] [] h hE (some (.inl (v))) := by
  unfold b_X10_action_0 at hf
  obtain ⟨x1, e1, hf⟩ := bnd hf
  obtain ⟨⟨x2, h2⟩, e2, hf⟩ := bnd hf
  try dsimp only at hf
  have k2 := c_X10_programAt e2
  have m2 := (k2 default_g).1
  obtain ⟨x3, e3, hf⟩ := bnd hf
  have mE : hp_n h2 ≤ hp_n hE ∧ hp_s h2 ≤ hp_s hE := by
    by_cases hc : a2 < 0
    · rw [if_pos hc] at hf; exact (q_X10_action_29 hf).1
    · rw [if_neg hc] at hf; exact (q_X10_action_14 hf).1
  refine ⟨by omega, fun X g K ok nmx lev hK en => ?_⟩
  refine tj_aload_n ok 0 dX10_action_0 rfl rfl ?_
  refine tj_iload_n ok 1 dX10_action_1 rfl rfl ?_
  refine tj_callV (rest := ([] : List TV).map (vl g)) (as := [.inl (a1)]) ok lev (by omega) fcX10.1 (by decide) rfl (of_if e1).1 (k2 g) (CaX.of en (by omega)) kn_X10_programAt wm_1168 wm_1169 wm_1170 (rs_ok (Nat.le_of_ble_eq_true rfl)) rfl rfl dX10_action_2 ?_
  refine tj_getR (k := 0) ok fcX5 (by decide) wm_1171 rfl (Or.inl ⟨_, rfl⟩) dX10_action_5 e3 ?_
  refine tj_astore (lv' := [(0, .inr (.inr (a0))), (1, .inl (a1)), (2, .inl (a2)), (3, .inl (a3)), (4, .inr (.inr (x3)))]) ok dX10_action_8 (by decide) rfl ?_
  refine tj_iload_n ok 2 dX10_action_10 rfl rfl ?_
  refine tj_if_lt (tgt := 29) ok dX10_action_11 (by decide) (fun hc => ?_) (fun hc => ?_)
  · rw [if_pos hc] at hf
    refine tj_sub (lv' := []) [] rfl ?_
    exact (q_X10_action_29 hf).2 X g K ok nmx lev hK en
  · rw [if_neg hc] at hf
    refine tj_sub (lv' := [(2, .inl (a2)), (3, .inl (a3)), (4, .inr (.inr (x3)))]) [2, 3, 4] rfl ?_
    exact (q_X10_action_14 hf).2 X g K ok nmx lev hK en
def f_X10_action (a0 : Nat) (a1 : Int32) (a2 : Int32) (a3 : Int32) (h : AH) : Option (Int32 × AH) := b_X10_action_0  a0 a1 a2 a3 h
theorem c_X10_action {a0 : Nat} {a1 : Int32} {a2 : Int32} {a3 : Int32} {h hE : AH} {v : Int32} (hf : f_X10_action a0 a1 a2 a3 h = some (v, hE)) : ∀ g : GT, CM g (4) yX10_action cX10_action 6 (some .int) h [.inr (.inr (a0)), .inl (a1), .inl (a2), .inl (a3)] hE (some (.inl (v))) :=
  CM.ofJ (by decide) (by show _ ≤ 6; exact Nat.le_of_ble_eq_true rfl) (q_X10_action_0 hf)
set_option maxHeartbeats 4000000 in
set_option maxRecDepth 100000 in
theorem t_X10_action_0 {a0 : Nat} {a1 : Int32} {a2 : Int32} {a3 : Int32} {h hE : AH} {E : Nat} {x1 : Unit} (e1 : ok_v h a0 10 = some x1) (hx : ∀ g : GT, CT g 10 yX10_programAt cX10_programAt 3 (some (.object "LitmusHouse$Program")) h [.inr (.inr (a0)), .inl (a1)] hE E) : ∀ g : GT, CT g 12 yX10_action cX10_action 6 (some .int) h [.inr (.inr (a0)), .inl (a1), .inl (a2), .inl (a3)] hE E := by
  intro g
  have mE := (hx g).1
  refine CT.of (by decide) (by show _ ≤ 6; exact Nat.le_of_ble_eq_true rfl) (by omega) (fun X ok nmx lev th => ?_)
  refine tj_aload_n ok 0 dX10_action_0 rfl rfl ?_
  refine tj_iload_n ok 1 dX10_action_1 rfl rfl ?_
  exact tj_xV (rest := ([] : List TV).map (vl g)) (as := [.inl (a1)]) ok lev (by omega) fcX10.1 (by decide) rfl (of_if e1).1 (hx g) th kn_X10_programAt wm_1168 wm_1169 wm_1170 (rs_ok (Nat.le_of_ble_eq_true rfl)) rfl dX10_action_2
/-! ===== LitmusHouse.allowed(II)I ===== -/
def b_X10_allowed_61 (a5 : Int32) (h : AH) : Option (Int32 × AH) :=
  some (a5, h)
set_option maxHeartbeats 4000000 in
set_option maxRecDepth 100000 in
theorem q_X10_allowed_61 {a5 : Int32} {h hE : AH} {v : Int32} (hf : b_X10_allowed_61 a5 h = some (v, hE)) : JD cX10_allowed 7 RX10 "allowed" (some .int) (147) 61 [(5, .inl (a5))] [] h hE (some (.inl (v))) := by
  unfold b_X10_allowed_61 at hf
  obtain ⟨hv, hh⟩ := Prod.mk.inj (Option.some.inj hf)
  subst hv
  subst hh
  have mE : hp_n h ≤ hp_n h ∧ hp_s h ≤ hp_s h := ⟨Nat.le_refl _, Nat.le_refl _⟩
  refine ⟨by omega, fun X g K ok nmx lev hK en => ?_⟩
  refine tj_iload ok 0 dX10_allowed_61 rfl ?_
  exact tj_ireturn ok en dX10_allowed_63
def b_X10_allowed_55 (r29 : Nat → Nat → Int32 → Int32 → AH → Option (Int32 × AH)) (a0 : Nat) (a4 : Nat) (a5 : Int32) (a6 : Int32) (h : AH) : Option (Int32 × AH) :=
  r29 a0 a4 a5 (a6 + (1 : Int32)) h
set_option maxHeartbeats 4000000 in
set_option maxRecDepth 100000 in
theorem q_X10_allowed_55 {hE : AH} {v : Int32} {r29 : Nat → Nat → Int32 → Int32 → AH → Option (Int32 × AH)} (hr29 : ∀ (b0 : Nat) (b4 : Nat) (b5 : Int32) (b6 : Int32) (h : AH), r29 b0 b4 b5 b6 h = some (v, hE) → JD cX10_allowed 7 RX10 "allowed" (some .int) (147) 29 [(0, .inr (.inr (b0))), (4, .inr (.inr (b4))), (5, .inl (b5)), (6, .inl (b6))] [] h hE (some (.inl (v)))) {a0 : Nat} {a4 : Nat} {a5 : Int32} {a6 : Int32} {h : AH} (hf : b_X10_allowed_55 r29 a0 a4 a5 a6 h = some (v, hE)) : JD cX10_allowed 7 RX10 "allowed" (some .int) (147) 55 [(0, .inr (.inr (a0))), (4, .inr (.inr (a4))), (5, .inl (a5)), (6, .inl (a6))] [] h hE (some (.inl (v))) := by
  unfold b_X10_allowed_55 at hf
  have J := hr29 _ _ _ _ _ hf
  have mE := J.1
  refine ⟨by omega, fun X g K ok nmx lev hK en => ?_⟩
  refine tj_iinc (lv' := [(0, .inr (.inr (a0))), (4, .inr (.inr (a4))), (5, .inl (a5)), (6, .inl (a6 + (1 : Int32)))]) ok 3 dX10_allowed_55 rfl (rfl) (by decide) rfl ?_
  refine tj_goto (tgt := 29) ok dX10_allowed_58 (by decide) ?_
  exact J.2 X g K ok nmx lev hK en
def b_X10_allowed_52 (r29 : Nat → Nat → Int32 → Int32 → AH → Option (Int32 × AH)) (a0 : Nat) (a4 : Nat) (a5 : Int32) (a6 : Int32) (h : AH) : Option (Int32 × AH) :=
  b_X10_allowed_55 r29 a0 a4 (a5 + (1 : Int32)) a6 h
set_option maxHeartbeats 4000000 in
set_option maxRecDepth 100000 in
theorem q_X10_allowed_52 {hE : AH} {v : Int32} {r29 : Nat → Nat → Int32 → Int32 → AH → Option (Int32 × AH)} (hr29 : ∀ (b0 : Nat) (b4 : Nat) (b5 : Int32) (b6 : Int32) (h : AH), r29 b0 b4 b5 b6 h = some (v, hE) → JD cX10_allowed 7 RX10 "allowed" (some .int) (147) 29 [(0, .inr (.inr (b0))), (4, .inr (.inr (b4))), (5, .inl (b5)), (6, .inl (b6))] [] h hE (some (.inl (v)))) {a0 : Nat} {a4 : Nat} {a5 : Int32} {a6 : Int32} {h : AH} (hf : b_X10_allowed_52 r29 a0 a4 a5 a6 h = some (v, hE)) : JD cX10_allowed 7 RX10 "allowed" (some .int) (147) 52 [(0, .inr (.inr (a0))), (4, .inr (.inr (a4))), (5, .inl (a5)), (6, .inl (a6))] [] h hE (some (.inl (v))) := by
  unfold b_X10_allowed_52 at hf
  have J := q_X10_allowed_55 hr29 hf
  have mE := J.1
  refine ⟨by omega, fun X g K ok nmx lev hK en => ?_⟩
  refine tj_iinc (lv' := [(0, .inr (.inr (a0))), (4, .inr (.inr (a4))), (5, .inl (a5 + (1 : Int32))), (6, .inl (a6))]) ok 2 dX10_allowed_52 rfl (rfl) (by decide) rfl ?_
  exact J.2 X g K ok nmx lev hK en
def b_X10_allowed_37 (r29 : Nat → Nat → Int32 → Int32 → AH → Option (Int32 × AH)) (a0 : Nat) (a4 : Nat) (a5 : Int32) (a6 : Int32) (h : AH) : Option (Int32 × AH) :=
  (l_i h a4 a6).bind fun x1 => (g_r h a0 10 2).bind fun x2 => (f_X3_meets x1 x2 h).bind fun q3 => if q3.1 = 0 then b_X10_allowed_55 r29 a0 a4 a5 a6 q3.2 else b_X10_allowed_52 r29 a0 a4 a5 a6 q3.2
set_option maxHeartbeats 4000000 in
set_option maxRecDepth 100000 in
theorem q_X10_allowed_37 {hE : AH} {v : Int32} {r29 : Nat → Nat → Int32 → Int32 → AH → Option (Int32 × AH)} (hr29 : ∀ (b0 : Nat) (b4 : Nat) (b5 : Int32) (b6 : Int32) (h : AH), r29 b0 b4 b5 b6 h = some (v, hE) → JD cX10_allowed 7 RX10 "allowed" (some .int) (147) 29 [(0, .inr (.inr (b0))), (4, .inr (.inr (b4))), (5, .inl (b5)), (6, .inl (b6))] [] h hE (some (.inl (v)))) {a0 : Nat} {a4 : Nat} {a5 : Int32} {a6 : Int32} {h : AH} (hf : b_X10_allowed_37 r29 a0 a4 a5 a6 h = some (v, hE)) : JD cX10_allowed 7 RX10 "allowed" (some .int) (147) 37 [(0, .inr (.inr (a0))), (4, .inr (.inr (a4))), (5, .inl (a5)), (6, .inl (a6))] [] h hE (some (.inl (v))) := by
  unfold b_X10_allowed_37 at hf
  obtain ⟨x1, e1, hf⟩ := bnd hf
  obtain ⟨x2, e2, hf⟩ := bnd hf
  obtain ⟨⟨x3, h3⟩, e3, hf⟩ := bnd hf
  try dsimp only at hf
  have k3 := c_X3_meets e3
  have m3 := (k3 default_g).1
  have mE : hp_n h3 ≤ hp_n hE ∧ hp_s h3 ≤ hp_s hE := by
    by_cases hc : x3 = 0
    · rw [if_pos hc] at hf; exact (q_X10_allowed_55 hr29 hf).1
    · rw [if_neg hc] at hf; exact (q_X10_allowed_52 hr29 hf).1
  refine ⟨by omega, fun X g K ok nmx lev hK en => ?_⟩
  refine tj_aload ok 1 dX10_allowed_37 rfl ?_
  refine tj_iload ok 3 dX10_allowed_39 rfl ?_
  refine tj_iaload ok dX10_allowed_41 e1 ?_
  refine tj_aload_n ok 0 dX10_allowed_42 rfl rfl ?_
  refine tj_getR (k := 2) ok fcX10 (by decide) wm_200 rfl (Or.inr ⟨_, rfl⟩) dX10_allowed_43 e2 ?_
  refine tj_callS (rest := ([] : List TV).map (vl g)) (as := [.inl (x1), .inr (.inr (x2))]) ok lev (by omega) (k3 g) (CaX.of en (by omega)) kn_X3_meets wm_1173 wm_416 (rs_ok (Nat.le_of_ble_eq_true rfl)) rfl rfl dX10_allowed_46 ?_
  refine tj_if_eq (tgt := 55) ok dX10_allowed_49 (by decide) (fun hc => ?_) (fun hc => ?_)
  · rw [if_pos hc] at hf
    exact (q_X10_allowed_55 hr29 hf).2 X g K ok nmx lev hK en
  · rw [if_neg hc] at hf
    exact (q_X10_allowed_52 hr29 hf).2 X g K ok nmx lev hK en
def b_X10_allowed_29 (r29 : Nat → Nat → Int32 → Int32 → AH → Option (Int32 × AH)) (a0 : Nat) (a4 : Nat) (a5 : Int32) (a6 : Int32) (h : AH) : Option (Int32 × AH) :=
  (al_n h a4).bind fun x1 => if x1 ≤ a6 then b_X10_allowed_61 a5 h else b_X10_allowed_37 r29 a0 a4 a5 a6 h
set_option maxHeartbeats 4000000 in
set_option maxRecDepth 100000 in
theorem q_X10_allowed_29 {hE : AH} {v : Int32} {r29 : Nat → Nat → Int32 → Int32 → AH → Option (Int32 × AH)} (hr29 : ∀ (b0 : Nat) (b4 : Nat) (b5 : Int32) (b6 : Int32) (h : AH), r29 b0 b4 b5 b6 h = some (v, hE) → JD cX10_allowed 7 RX10 "allowed" (some .int) (147) 29 [(0, .inr (.inr (b0))), (4, .inr (.inr (b4))), (5, .inl (b5)), (6, .inl (b6))] [] h hE (some (.inl (v)))) {a0 : Nat} {a4 : Nat} {a5 : Int32} {a6 : Int32} {h : AH} (hf : b_X10_allowed_29 r29 a0 a4 a5 a6 h = some (v, hE)) : JD cX10_allowed 7 RX10 "allowed" (some .int) (147) 29 [(0, .inr (.inr (a0))), (4, .inr (.inr (a4))), (5, .inl (a5)), (6, .inl (a6))] [] h hE (some (.inl (v))) := by
  unfold b_X10_allowed_29 at hf
  obtain ⟨x1, e1, hf⟩ := bnd hf
  have mE : hp_n h ≤ hp_n hE ∧ hp_s h ≤ hp_s hE := by
    by_cases hc : x1 ≤ a6
    · rw [if_pos hc] at hf; exact (q_X10_allowed_61 hf).1
    · rw [if_neg hc] at hf; exact (q_X10_allowed_37 hr29 hf).1
  refine ⟨by omega, fun X g K ok nmx lev hK en => ?_⟩
  refine tj_iload ok 3 dX10_allowed_29 rfl ?_
  refine tj_aload ok 1 dX10_allowed_31 rfl ?_
  refine tj_alen ok dX10_allowed_33 e1 ?_
  refine tj_icmp_ge (tgt := 61) ok dX10_allowed_34 (by decide) (fun hc => ?_) (fun hc => ?_)
  · rw [if_pos hc] at hf
    refine tj_sub (lv' := [(5, .inl (a5))]) [2] rfl ?_
    exact (q_X10_allowed_61 hf).2 X g K ok nmx lev hK en
  · rw [if_neg hc] at hf
    exact (q_X10_allowed_37 hr29 hf).2 X g K ok nmx lev hK en
def l_X10_allowed_29 : Nat → Nat → Nat → Int32 → Int32 → AH → Option (Int32 × AH)
  | 0 => fun _ _ _ _ _ => none
  | n + 1 => fun a0 a4 a5 a6 h => b_X10_allowed_29 (l_X10_allowed_29 n) a0 a4 a5 a6 h
theorem ql_X10_allowed_29 {n : Nat} {a0 : Nat} {a4 : Nat} {a5 : Int32} {a6 : Int32} {h hE : AH} {v : Int32} (hf : l_X10_allowed_29 n a0 a4 a5 a6 h = some (v, hE)) : JD cX10_allowed 7 RX10 "allowed" (some .int) (147) 29 [(0, .inr (.inr (a0))), (4, .inr (.inr (a4))), (5, .inl (a5)), (6, .inl (a6))] [] h hE (some (.inl (v))) := by
  induction n generalizing a0 a4 a5 a6 h with
  | zero => cases hf
  | succ n ih => exact q_X10_allowed_29 (fun _ _ _ _ _ hf => ih hf) hf
def b_X10_allowed_15 (a0 : Nat) (a2 : Int32) (a3 : Nat) (h : AH) : Option (Int32 × AH) :=
  (ok_v h a0 10).bind fun x1 => (f_X10_outcomesOf a0 a3 a2 h).bind fun q2 => l_X10_allowed_29 fu_ a0 q2.1 (0 : Int32) (0 : Int32) q2.2
set_option maxHeartbeats 4000000 in
set_option maxRecDepth 100000 in
theorem q_X10_allowed_15 {a0 : Nat} {a2 : Int32} {a3 : Nat} {h hE : AH} {v : Int32} (hf : b_X10_allowed_15 a0 a2 a3 h = some (v, hE)) : JD cX10_allowed 7 RX10 "allowed" (some .int) (147) 15 [(0, .inr (.inr (a0))), (2, .inl (a2)), (3, .inr (.inr (a3)))] [] h hE (some (.inl (v))) := by
  unfold b_X10_allowed_15 at hf
  obtain ⟨x1, e1, hf⟩ := bnd hf
  obtain ⟨⟨x2, h2⟩, e2, hf⟩ := bnd hf
  try dsimp only at hf
  have k2 := c_X10_outcomesOf e2
  have m2 := (k2 default_g).1
  have J := ql_X10_allowed_29 hf
  have mE := J.1
  refine ⟨by omega, fun X g K ok nmx lev hK en => ?_⟩
  refine tj_aload_n ok 0 dX10_allowed_15 rfl rfl ?_
  refine tj_aload_n ok 2 dX10_allowed_16 rfl rfl ?_
  refine tj_iload_n ok 1 dX10_allowed_17 rfl rfl ?_
  refine tj_callV (rest := ([] : List TV).map (vl g)) (as := [.inr (.inr (a3)), .inl (a2)]) ok lev (by omega) fcX10.1 (by decide) rfl (of_if e1).1 (k2 g) (CaX.of en (by omega)) kn_X10_outcomesOf wm_1174 wm_1175 wm_1176 (rs_ok (Nat.le_of_ble_eq_true rfl)) rfl rfl dX10_allowed_18 ?_
  refine tj_astore (lv' := [(0, .inr (.inr (a0))), (2, .inl (a2)), (3, .inr (.inr (a3))), (4, .inr (.inr (x2)))]) ok dX10_allowed_21 (by decide) rfl ?_
  refine tj_iconst (v := 0) ok dX10_allowed_23 (by decide) ?_
  refine tj_istore (lv' := [(0, .inr (.inr (a0))), (2, .inl (a2)), (3, .inr (.inr (a3))), (4, .inr (.inr (x2))), (5, .inl ((0 : Int32)))]) ok dX10_allowed_24 (by decide) rfl ?_
  refine tj_iconst (v := 0) ok dX10_allowed_26 (by decide) ?_
  refine tj_istore (lv' := [(0, .inr (.inr (a0))), (2, .inl (a2)), (3, .inr (.inr (a3))), (4, .inr (.inr (x2))), (5, .inl ((0 : Int32))), (6, .inl ((0 : Int32)))]) ok dX10_allowed_27 (by decide) rfl ?_
  refine tj_sub (lv' := [(0, .inr (.inr (a0))), (4, .inr (.inr (x2))), (5, .inl ((0 : Int32))), (6, .inl ((0 : Int32)))]) [0, 3, 4, 5] rfl ?_
  exact J.2 X g K ok nmx lev hK en
def b_X10_allowed_13  (h : AH) : Option (Int32 × AH) :=
  some ((-1 : Int32), h)
set_option maxHeartbeats 4000000 in
set_option maxRecDepth 100000 in
theorem q_X10_allowed_13 {h hE : AH} {v : Int32} (hf : b_X10_allowed_13  h = some (v, hE)) : JD cX10_allowed 7 RX10 "allowed" (some .int) (147) 13 [] [] h hE (some (.inl (v))) := by
  unfold b_X10_allowed_13 at hf
  obtain ⟨hv, hh⟩ := Prod.mk.inj (Option.some.inj hf)
  subst hv
  subst hh
  have mE : hp_n h ≤ hp_n h ∧ hp_s h ≤ hp_s h := ⟨Nat.le_refl _, Nat.le_refl _⟩
  refine ⟨by omega, fun X g K ok nmx lev hK en => ?_⟩
  refine tj_iconst (v := -1) ok dX10_allowed_13 (by decide) ?_
  exact tj_ireturn ok en dX10_allowed_14
def b_X10_allowed_0 (a0 : Nat) (a1 : Int32) (a2 : Int32) (h : AH) : Option (Int32 × AH) :=
  (ok_v h a0 10).bind fun x1 => (f_X10_programAt a0 a1 h).bind fun q2 => (f_X10_isOrder a2 q2.2).bind fun q3 => if q3.1 = 0 then b_X10_allowed_13 q3.2 else b_X10_allowed_15 a0 a2 q2.1 q3.2
set_option maxHeartbeats 4000000 in
set_option maxRecDepth 100000 in
theorem q_X10_allowed_0 {a0 : Nat} {a1 : Int32} {a2 : Int32} {h hE : AH} {v : Int32} (hf : b_X10_allowed_0 a0 a1 a2 h = some (v, hE)) : JD cX10_allowed 7 RX10 "allowed" (some .int) (147) 0 [(0, .inr (.inr (a0))), (1, .inl (a1)), (2, .inl (a2))] [] h hE (some (.inl (v))) := by
  unfold b_X10_allowed_0 at hf
  obtain ⟨x1, e1, hf⟩ := bnd hf
  obtain ⟨⟨x2, h2⟩, e2, hf⟩ := bnd hf
  try dsimp only at hf
  have k2 := c_X10_programAt e2
  have m2 := (k2 default_g).1
  obtain ⟨⟨x3, h3⟩, e3, hf⟩ := bnd hf
  try dsimp only at hf
  have k3 := c_X10_isOrder e3
  have m3 := (k3 default_g).1
  have mE : hp_n h3 ≤ hp_n hE ∧ hp_s h3 ≤ hp_s hE := by
    by_cases hc : x3 = 0
    · rw [if_pos hc] at hf; exact (q_X10_allowed_13 hf).1
    · rw [if_neg hc] at hf; exact (q_X10_allowed_15 hf).1
  refine ⟨by omega, fun X g K ok nmx lev hK en => ?_⟩
  refine tj_aload_n ok 0 dX10_allowed_0 rfl rfl ?_
  refine tj_iload_n ok 1 dX10_allowed_1 rfl rfl ?_
  refine tj_callV (rest := ([] : List TV).map (vl g)) (as := [.inl (a1)]) ok lev (by omega) fcX10.1 (by decide) rfl (of_if e1).1 (k2 g) (CaX.of en (by omega)) kn_X10_programAt wm_1168 wm_1169 wm_1170 (rs_ok (Nat.le_of_ble_eq_true rfl)) rfl rfl dX10_allowed_2 ?_
  refine tj_astore_n (lv' := [(0, .inr (.inr (a0))), (1, .inl (a1)), (2, .inl (a2)), (3, .inr (.inr (x2)))]) ok dX10_allowed_5 rfl (by decide) rfl ?_
  refine tj_iload_n ok 2 dX10_allowed_6 rfl rfl ?_
  refine tj_callS (rest := ([] : List TV).map (vl g)) (as := [.inl (a2)]) ok lev (by omega) (k3 g) (CaX.of en (by omega)) kn_X10_isOrder wm_1177 wm_1178 (rs_ok (Nat.le_of_ble_eq_true rfl)) rfl rfl dX10_allowed_7 ?_
  refine tj_if_ne (tgt := 15) ok dX10_allowed_10 (by decide) (fun hc => ?_) (fun hc => ?_)
  · rw [if_neg hc] at hf
    refine tj_sub (lv' := [(0, .inr (.inr (a0))), (2, .inl (a2)), (3, .inr (.inr (x2)))]) [0, 2, 3] rfl ?_
    exact (q_X10_allowed_15 hf).2 X g K ok nmx lev hK en
  · rw [if_pos hc] at hf
    refine tj_sub (lv' := []) [] rfl ?_
    exact (q_X10_allowed_13 hf).2 X g K ok nmx lev hK en
def f_X10_allowed (a0 : Nat) (a1 : Int32) (a2 : Int32) (h : AH) : Option (Int32 × AH) := b_X10_allowed_0  a0 a1 a2 h
theorem c_X10_allowed {a0 : Nat} {a1 : Int32} {a2 : Int32} {h hE : AH} {v : Int32} (hf : f_X10_allowed a0 a1 a2 h = some (v, hE)) : ∀ g : GT, CM g (147) yX10_allowed cX10_allowed 7 (some .int) h [.inr (.inr (a0)), .inl (a1), .inl (a2)] hE (some (.inl (v))) :=
  CM.ofJ (by decide) (by show _ ≤ 7; exact Nat.le_of_ble_eq_true rfl) (q_X10_allowed_0 hf)
set_option maxHeartbeats 4000000 in
set_option maxRecDepth 100000 in
theorem t_X10_allowed_0 {a0 : Nat} {a1 : Int32} {a2 : Int32} {h hE : AH} {E : Nat} {x1 : Unit} (e1 : ok_v h a0 10 = some x1) (hx : ∀ g : GT, CT g 10 yX10_programAt cX10_programAt 3 (some (.object "LitmusHouse$Program")) h [.inr (.inr (a0)), .inl (a1)] hE E) : ∀ g : GT, CT g 12 yX10_allowed cX10_allowed 7 (some .int) h [.inr (.inr (a0)), .inl (a1), .inl (a2)] hE E := by
  intro g
  have mE := (hx g).1
  refine CT.of (by decide) (by show _ ≤ 7; exact Nat.le_of_ble_eq_true rfl) (by omega) (fun X ok nmx lev th => ?_)
  refine tj_aload_n ok 0 dX10_allowed_0 rfl rfl ?_
  refine tj_iload_n ok 1 dX10_allowed_1 rfl rfl ?_
  exact tj_xV (rest := ([] : List TV).map (vl g)) (as := [.inl (a1)]) ok lev (by omega) fcX10.1 (by decide) rfl (of_if e1).1 (hx g) th kn_X10_programAt wm_1168 wm_1169 wm_1170 (rs_ok (Nat.le_of_ble_eq_true rfl)) rfl dX10_allowed_2
/-! ===== LitmusHouse.before(III)I ===== -/
def b_X10_before_42  (h : AH) : Option (Int32 × AH) :=
  some ((-1 : Int32), h)
set_option maxHeartbeats 4000000 in
set_option maxRecDepth 100000 in
theorem q_X10_before_42 {h hE : AH} {v : Int32} (hf : b_X10_before_42  h = some (v, hE)) : JD cX10_before 8 RX10 "before" (some .int) (147) 42 [] [] h hE (some (.inl (v))) := by
  unfold b_X10_before_42 at hf
  obtain ⟨hv, hh⟩ := Prod.mk.inj (Option.some.inj hf)
  subst hv
  subst hh
  have mE : hp_n h ≤ hp_n h ∧ hp_s h ≤ hp_s h := ⟨Nat.le_refl _, Nat.le_refl _⟩
  refine ⟨by omega, fun X g K ok nmx lev hK en => ?_⟩
  refine tj_iconst (v := -1) ok dX10_before_42 (by decide) ?_
  exact tj_ireturn ok en dX10_before_43
def b_X10_before_110 (s0 : Int32) (h : AH) : Option (Int32 × AH) :=
  some (s0, h)
set_option maxHeartbeats 4000000 in
set_option maxRecDepth 100000 in
theorem q_X10_before_110 {s0 : Int32} {h hE : AH} {v : Int32} (hf : b_X10_before_110 s0 h = some (v, hE)) : JD cX10_before 8 RX10 "before" (some .int) (147) 110 [] [.inl (s0)] h hE (some (.inl (v))) := by
  unfold b_X10_before_110 at hf
  obtain ⟨hv, hh⟩ := Prod.mk.inj (Option.some.inj hf)
  subst hv
  subst hh
  have mE : hp_n h ≤ hp_n h ∧ hp_s h ≤ hp_s h := ⟨Nat.le_refl _, Nat.le_refl _⟩
  refine ⟨by omega, fun X g K ok nmx lev hK en => ?_⟩
  exact tj_ireturn ok en dX10_before_110
def b_X10_before_109  (h : AH) : Option (Int32 × AH) :=
  b_X10_before_110 (3 : Int32) h
set_option maxHeartbeats 4000000 in
set_option maxRecDepth 100000 in
theorem q_X10_before_109 {h hE : AH} {v : Int32} (hf : b_X10_before_109  h = some (v, hE)) : JD cX10_before 8 RX10 "before" (some .int) (147) 109 [] [] h hE (some (.inl (v))) := by
  unfold b_X10_before_109 at hf
  have J := q_X10_before_110 hf
  have mE := J.1
  refine ⟨by omega, fun X g K ok nmx lev hK en => ?_⟩
  refine tj_iconst (v := 3) ok dX10_before_109 (by decide) ?_
  exact J.2 X g K ok nmx lev hK en
def b_X10_before_105  (h : AH) : Option (Int32 × AH) :=
  b_X10_before_110 (2 : Int32) h
set_option maxHeartbeats 4000000 in
set_option maxRecDepth 100000 in
theorem q_X10_before_105 {h hE : AH} {v : Int32} (hf : b_X10_before_105  h = some (v, hE)) : JD cX10_before 8 RX10 "before" (some .int) (147) 105 [] [] h hE (some (.inl (v))) := by
  unfold b_X10_before_105 at hf
  have J := q_X10_before_110 hf
  have mE := J.1
  refine ⟨by omega, fun X g K ok nmx lev hK en => ?_⟩
  refine tj_iconst (v := 2) ok dX10_before_105 (by decide) ?_
  refine tj_goto (tgt := 110) ok dX10_before_106 (by decide) ?_
  exact J.2 X g K ok nmx lev hK en
def b_X10_before_92 (a4 : Nat) (a6 : Int64) (h : AH) : Option (Int32 × AH) :=
  (g_j h a4 5 3).bind fun x1 => if (lg_cmp (x1 &&& a6) (0 : Int64)) = 0 then b_X10_before_109 h else b_X10_before_105 h
set_option maxHeartbeats 4000000 in
set_option maxRecDepth 100000 in
theorem q_X10_before_92 {a4 : Nat} {a6 : Int64} {h hE : AH} {v : Int32} (hf : b_X10_before_92 a4 a6 h = some (v, hE)) : JD cX10_before 8 RX10 "before" (some .int) (147) 92 [(4, .inr (.inr (a4))), (6, .inr (.inl (a6)))] [] h hE (some (.inl (v))) := by
  unfold b_X10_before_92 at hf
  obtain ⟨x1, e1, hf⟩ := bnd hf
  have mE : hp_n h ≤ hp_n hE ∧ hp_s h ≤ hp_s hE := by
    by_cases hc : (lg_cmp (x1 &&& a6) (0 : Int64)) = 0
    · rw [if_pos hc] at hf; exact (q_X10_before_109 hf).1
    · rw [if_neg hc] at hf; exact (q_X10_before_105 hf).1
  refine ⟨by omega, fun X g K ok nmx lev hK en => ?_⟩
  refine tj_aload ok 0 dX10_before_92 rfl ?_
  refine tj_getJ (k := 3) ok fcX5 (by decide) wm_1180 rfl rfl dX10_before_94 e1 ?_
  refine tj_lload ok 1 dX10_before_97 rfl ?_
  refine tj_land ok dX10_before_99 ?_
  refine tj_lconst (v := 0) ok dX10_before_100 (by decide) ?_
  refine tj_lcmp ok dX10_before_101 ?_
  refine tj_if_eq (tgt := 109) ok dX10_before_102 (by decide) (fun hc => ?_) (fun hc => ?_)
  · rw [if_pos hc] at hf
    refine tj_sub (lv' := []) [] rfl ?_
    exact (q_X10_before_109 hf).2 X g K ok nmx lev hK en
  · rw [if_neg hc] at hf
    refine tj_sub (lv' := []) [] rfl ?_
    exact (q_X10_before_105 hf).2 X g K ok nmx lev hK en
def b_X10_before_90  (h : AH) : Option (Int32 × AH) :=
  some ((1 : Int32), h)
set_option maxHeartbeats 4000000 in
set_option maxRecDepth 100000 in
theorem q_X10_before_90 {h hE : AH} {v : Int32} (hf : b_X10_before_90  h = some (v, hE)) : JD cX10_before 8 RX10 "before" (some .int) (147) 90 [] [] h hE (some (.inl (v))) := by
  unfold b_X10_before_90 at hf
  obtain ⟨hv, hh⟩ := Prod.mk.inj (Option.some.inj hf)
  subst hv
  subst hh
  have mE : hp_n h ≤ hp_n h ∧ hp_s h ≤ hp_s h := ⟨Nat.le_refl _, Nat.le_refl _⟩
  refine ⟨by omega, fun X g K ok nmx lev hK en => ?_⟩
  refine tj_iconst (v := 1) ok dX10_before_90 (by decide) ?_
  exact tj_ireturn ok en dX10_before_91
def b_X10_before_77 (a4 : Nat) (a6 : Int64) (h : AH) : Option (Int32 × AH) :=
  (g_j h a4 5 4).bind fun x1 => if (lg_cmp (x1 &&& a6) (0 : Int64)) = 0 then b_X10_before_90 h else b_X10_before_92 a4 a6 h
set_option maxHeartbeats 4000000 in
set_option maxRecDepth 100000 in
theorem q_X10_before_77 {a4 : Nat} {a6 : Int64} {h hE : AH} {v : Int32} (hf : b_X10_before_77 a4 a6 h = some (v, hE)) : JD cX10_before 8 RX10 "before" (some .int) (147) 77 [(4, .inr (.inr (a4))), (6, .inr (.inl (a6)))] [] h hE (some (.inl (v))) := by
  unfold b_X10_before_77 at hf
  obtain ⟨x1, e1, hf⟩ := bnd hf
  have mE : hp_n h ≤ hp_n hE ∧ hp_s h ≤ hp_s hE := by
    by_cases hc : (lg_cmp (x1 &&& a6) (0 : Int64)) = 0
    · rw [if_pos hc] at hf; exact (q_X10_before_90 hf).1
    · rw [if_neg hc] at hf; exact (q_X10_before_92 hf).1
  refine ⟨by omega, fun X g K ok nmx lev hK en => ?_⟩
  refine tj_aload ok 0 dX10_before_77 rfl ?_
  refine tj_getJ (k := 4) ok fcX5 (by decide) wm_1181 rfl rfl dX10_before_79 e1 ?_
  refine tj_lload ok 1 dX10_before_82 rfl ?_
  refine tj_land ok dX10_before_84 ?_
  refine tj_lconst (v := 0) ok dX10_before_85 (by decide) ?_
  refine tj_lcmp ok dX10_before_86 ?_
  refine tj_if_ne (tgt := 92) ok dX10_before_87 (by decide) (fun hc => ?_) (fun hc => ?_)
  · rw [if_neg hc] at hf
    exact (q_X10_before_92 hf).2 X g K ok nmx lev hK en
  · rw [if_pos hc] at hf
    refine tj_sub (lv' := []) [] rfl ?_
    exact (q_X10_before_90 hf).2 X g K ok nmx lev hK en
def b_X10_before_75  (h : AH) : Option (Int32 × AH) :=
  some ((0 : Int32), h)
set_option maxHeartbeats 4000000 in
set_option maxRecDepth 100000 in
theorem q_X10_before_75 {h hE : AH} {v : Int32} (hf : b_X10_before_75  h = some (v, hE)) : JD cX10_before 8 RX10 "before" (some .int) (147) 75 [] [] h hE (some (.inl (v))) := by
  unfold b_X10_before_75 at hf
  obtain ⟨hv, hh⟩ := Prod.mk.inj (Option.some.inj hf)
  subst hv
  subst hh
  have mE : hp_n h ≤ hp_n h ∧ hp_s h ≤ hp_s h := ⟨Nat.le_refl _, Nat.le_refl _⟩
  refine ⟨by omega, fun X g K ok nmx lev hK en => ?_⟩
  refine tj_iconst (v := 0) ok dX10_before_75 (by decide) ?_
  exact tj_ireturn ok en dX10_before_76
def b_X10_before_44 (a0 : Nat) (a2 : Int32) (a3 : Int32) (a4 : Nat) (h : AH) : Option (Int32 × AH) :=
  (ok_v h a0 10).bind fun x1 => (f_X10_outcomesOf a0 a4 (2 : Int32) h).bind fun q2 => (g_j q2.2 a4 5 2).bind fun x3 => if (lg_cmp (x3 &&& ((1 : Int64) <<< ((((8 : Int32) * a3) + a2).toInt64 &&& 63))) (0 : Int64)) = 0 then b_X10_before_75 q2.2 else b_X10_before_77 a4 ((1 : Int64) <<< ((((8 : Int32) * a3) + a2).toInt64 &&& 63)) q2.2
set_option maxHeartbeats 4000000 in
set_option maxRecDepth 100000 in
theorem q_X10_before_44 {a0 : Nat} {a2 : Int32} {a3 : Int32} {a4 : Nat} {h hE : AH} {v : Int32} (hf : b_X10_before_44 a0 a2 a3 a4 h = some (v, hE)) : JD cX10_before 8 RX10 "before" (some .int) (147) 44 [(0, .inr (.inr (a0))), (2, .inl (a2)), (3, .inl (a3)), (4, .inr (.inr (a4)))] [] h hE (some (.inl (v))) := by
  unfold b_X10_before_44 at hf
  obtain ⟨x1, e1, hf⟩ := bnd hf
  obtain ⟨⟨x2, h2⟩, e2, hf⟩ := bnd hf
  try dsimp only at hf
  have k2 := c_X10_outcomesOf e2
  have m2 := (k2 default_g).1
  obtain ⟨x3, e3, hf⟩ := bnd hf
  have mE : hp_n h2 ≤ hp_n hE ∧ hp_s h2 ≤ hp_s hE := by
    by_cases hc : (lg_cmp (x3 &&& ((1 : Int64) <<< ((((8 : Int32) * a3) + a2).toInt64 &&& 63))) (0 : Int64)) = 0
    · rw [if_pos hc] at hf; exact (q_X10_before_75 hf).1
    · rw [if_neg hc] at hf; exact (q_X10_before_77 hf).1
  refine ⟨by omega, fun X g K ok nmx lev hK en => ?_⟩
  refine tj_aload_n ok 0 dX10_before_44 rfl rfl ?_
  refine tj_aload ok 3 dX10_before_45 rfl ?_
  refine tj_iconst (v := 2) ok dX10_before_47 (by decide) ?_
  refine tj_callV (rest := ([] : List TV).map (vl g)) (as := [.inr (.inr (a4)), .inl ((2 : Int32))]) ok lev (by omega) fcX10.1 (by decide) rfl (of_if e1).1 (k2 g) (CaX.of en (by omega)) kn_X10_outcomesOf wm_1174 wm_1175 wm_1176 (rs_ok (Nat.le_of_ble_eq_true rfl)) rfl rfl dX10_before_48 ?_
  refine tj_popa ok dX10_before_51 ?_
  refine tj_lconst (v := 1) ok dX10_before_52 (by decide) ?_
  refine tj_bipush (v := 8) ok dX10_before_53 (by decide) ?_
  refine tj_iload_n ok 2 dX10_before_55 rfl rfl ?_
  refine tj_imul ok dX10_before_56 ?_
  refine tj_iload_n ok 1 dX10_before_57 rfl rfl ?_
  refine tj_iadd ok dX10_before_58 ?_
  refine tj_lshl ok dX10_before_59 ?_
  refine tj_lstore (lv' := [(0, .inr (.inr (a0))), (2, .inl (a2)), (3, .inl (a3)), (4, .inr (.inr (a4))), (6, .inr (.inl ((1 : Int64) <<< ((((8 : Int32) * a3) + a2).toInt64 &&& 63))))]) ok dX10_before_60 (by decide) rfl ?_
  refine tj_aload ok 3 dX10_before_62 rfl ?_
  refine tj_getJ (k := 2) ok fcX5 (by decide) wm_1182 rfl rfl dX10_before_64 e3 ?_
  refine tj_lload ok 4 dX10_before_67 rfl ?_
  refine tj_land ok dX10_before_69 ?_
  refine tj_lconst (v := 0) ok dX10_before_70 (by decide) ?_
  refine tj_lcmp ok dX10_before_71 ?_
  refine tj_if_ne (tgt := 77) ok dX10_before_72 (by decide) (fun hc => ?_) (fun hc => ?_)
  · rw [if_neg hc] at hf
    refine tj_sub (lv' := [(4, .inr (.inr (a4))), (6, .inr (.inl ((1 : Int64) <<< ((((8 : Int32) * a3) + a2).toInt64 &&& 63))))]) [3, 4] rfl ?_
    exact (q_X10_before_77 hf).2 X g K ok nmx lev hK en
  · rw [if_pos hc] at hf
    refine tj_sub (lv' := []) [] rfl ?_
    exact (q_X10_before_75 hf).2 X g K ok nmx lev hK en
def b_X10_before_37 (a0 : Nat) (a2 : Int32) (a3 : Int32) (a4 : Nat) (h : AH) : Option (Int32 × AH) :=
  if a2 = a3 then b_X10_before_42 h else b_X10_before_44 a0 a2 a3 a4 h
set_option maxHeartbeats 4000000 in
set_option maxRecDepth 100000 in
theorem q_X10_before_37 {a0 : Nat} {a2 : Int32} {a3 : Int32} {a4 : Nat} {h hE : AH} {v : Int32} (hf : b_X10_before_37 a0 a2 a3 a4 h = some (v, hE)) : JD cX10_before 8 RX10 "before" (some .int) (147) 37 [(0, .inr (.inr (a0))), (2, .inl (a2)), (3, .inl (a3)), (4, .inr (.inr (a4)))] [] h hE (some (.inl (v))) := by
  unfold b_X10_before_37 at hf
  have mE : hp_n h ≤ hp_n hE ∧ hp_s h ≤ hp_s hE := by
    by_cases hc : a2 = a3
    · rw [if_pos hc] at hf; exact (q_X10_before_42 hf).1
    · rw [if_neg hc] at hf; exact (q_X10_before_44 hf).1
  refine ⟨by omega, fun X g K ok nmx lev hK en => ?_⟩
  refine tj_iload_n ok 1 dX10_before_37 rfl rfl ?_
  refine tj_iload_n ok 2 dX10_before_38 rfl rfl ?_
  refine tj_icmp_ne (tgt := 44) ok dX10_before_39 (by decide) (fun hc => ?_) (fun hc => ?_)
  · rw [if_neg hc] at hf
    exact (q_X10_before_44 hf).2 X g K ok nmx lev hK en
  · rw [if_pos hc] at hf
    refine tj_sub (lv' := []) [] rfl ?_
    exact (q_X10_before_42 hf).2 X g K ok nmx lev hK en
def b_X10_before_31 (a0 : Nat) (a2 : Int32) (a3 : Int32) (a4 : Nat) (a5 : Int32) (h : AH) : Option (Int32 × AH) :=
  if a5 ≤ a3 then b_X10_before_42 h else b_X10_before_37 a0 a2 a3 a4 h
set_option maxHeartbeats 4000000 in
set_option maxRecDepth 100000 in
theorem q_X10_before_31 {a0 : Nat} {a2 : Int32} {a3 : Int32} {a4 : Nat} {a5 : Int32} {h hE : AH} {v : Int32} (hf : b_X10_before_31 a0 a2 a3 a4 a5 h = some (v, hE)) : JD cX10_before 8 RX10 "before" (some .int) (147) 31 [(0, .inr (.inr (a0))), (2, .inl (a2)), (3, .inl (a3)), (4, .inr (.inr (a4))), (5, .inl (a5))] [] h hE (some (.inl (v))) := by
  unfold b_X10_before_31 at hf
  have mE : hp_n h ≤ hp_n hE ∧ hp_s h ≤ hp_s hE := by
    by_cases hc : a5 ≤ a3
    · rw [if_pos hc] at hf; exact (q_X10_before_42 hf).1
    · rw [if_neg hc] at hf; exact (q_X10_before_37 hf).1
  refine ⟨by omega, fun X g K ok nmx lev hK en => ?_⟩
  refine tj_iload_n ok 2 dX10_before_31 rfl rfl ?_
  refine tj_iload ok 4 dX10_before_32 rfl ?_
  refine tj_icmp_ge (tgt := 42) ok dX10_before_34 (by decide) (fun hc => ?_) (fun hc => ?_)
  · rw [if_pos hc] at hf
    refine tj_sub (lv' := []) [] rfl ?_
    exact (q_X10_before_42 hf).2 X g K ok nmx lev hK en
  · rw [if_neg hc] at hf
    refine tj_sub (lv' := [(0, .inr (.inr (a0))), (2, .inl (a2)), (3, .inl (a3)), (4, .inr (.inr (a4)))]) [0, 1, 2, 3] rfl ?_
    exact (q_X10_before_37 hf).2 X g K ok nmx lev hK en
def b_X10_before_27 (a0 : Nat) (a2 : Int32) (a3 : Int32) (a4 : Nat) (a5 : Int32) (h : AH) : Option (Int32 × AH) :=
  if a3 < 0 then b_X10_before_42 h else b_X10_before_31 a0 a2 a3 a4 a5 h
set_option maxHeartbeats 4000000 in
set_option maxRecDepth 100000 in
theorem q_X10_before_27 {a0 : Nat} {a2 : Int32} {a3 : Int32} {a4 : Nat} {a5 : Int32} {h hE : AH} {v : Int32} (hf : b_X10_before_27 a0 a2 a3 a4 a5 h = some (v, hE)) : JD cX10_before 8 RX10 "before" (some .int) (147) 27 [(0, .inr (.inr (a0))), (2, .inl (a2)), (3, .inl (a3)), (4, .inr (.inr (a4))), (5, .inl (a5))] [] h hE (some (.inl (v))) := by
  unfold b_X10_before_27 at hf
  have mE : hp_n h ≤ hp_n hE ∧ hp_s h ≤ hp_s hE := by
    by_cases hc : a3 < 0
    · rw [if_pos hc] at hf; exact (q_X10_before_42 hf).1
    · rw [if_neg hc] at hf; exact (q_X10_before_31 hf).1
  refine ⟨by omega, fun X g K ok nmx lev hK en => ?_⟩
  refine tj_iload_n ok 2 dX10_before_27 rfl rfl ?_
  refine tj_if_lt (tgt := 42) ok dX10_before_28 (by decide) (fun hc => ?_) (fun hc => ?_)
  · rw [if_pos hc] at hf
    refine tj_sub (lv' := []) [] rfl ?_
    exact (q_X10_before_42 hf).2 X g K ok nmx lev hK en
  · rw [if_neg hc] at hf
    exact (q_X10_before_31 hf).2 X g K ok nmx lev hK en
def b_X10_before_21 (a0 : Nat) (a2 : Int32) (a3 : Int32) (a4 : Nat) (a5 : Int32) (h : AH) : Option (Int32 × AH) :=
  if a5 ≤ a2 then b_X10_before_42 h else b_X10_before_27 a0 a2 a3 a4 a5 h
set_option maxHeartbeats 4000000 in
set_option maxRecDepth 100000 in
theorem q_X10_before_21 {a0 : Nat} {a2 : Int32} {a3 : Int32} {a4 : Nat} {a5 : Int32} {h hE : AH} {v : Int32} (hf : b_X10_before_21 a0 a2 a3 a4 a5 h = some (v, hE)) : JD cX10_before 8 RX10 "before" (some .int) (147) 21 [(0, .inr (.inr (a0))), (2, .inl (a2)), (3, .inl (a3)), (4, .inr (.inr (a4))), (5, .inl (a5))] [] h hE (some (.inl (v))) := by
  unfold b_X10_before_21 at hf
  have mE : hp_n h ≤ hp_n hE ∧ hp_s h ≤ hp_s hE := by
    by_cases hc : a5 ≤ a2
    · rw [if_pos hc] at hf; exact (q_X10_before_42 hf).1
    · rw [if_neg hc] at hf; exact (q_X10_before_27 hf).1
  refine ⟨by omega, fun X g K ok nmx lev hK en => ?_⟩
  refine tj_iload_n ok 1 dX10_before_21 rfl rfl ?_
  refine tj_iload ok 4 dX10_before_22 rfl ?_
  refine tj_icmp_ge (tgt := 42) ok dX10_before_24 (by decide) (fun hc => ?_) (fun hc => ?_)
  · rw [if_pos hc] at hf
    refine tj_sub (lv' := []) [] rfl ?_
    exact (q_X10_before_42 hf).2 X g K ok nmx lev hK en
  · rw [if_neg hc] at hf
    exact (q_X10_before_27 hf).2 X g K ok nmx lev hK en
def b_X10_before_0 (a0 : Nat) (a1 : Int32) (a2 : Int32) (a3 : Int32) (h : AH) : Option (Int32 × AH) :=
  (ok_v h a0 10).bind fun x1 => (f_X10_programAt a0 a1 h).bind fun q2 => (g_r q2.2 q2.1 5 0).bind fun x3 => (g_i q2.2 x3 0 12).bind fun x4 => if a2 < 0 then b_X10_before_42 q2.2 else b_X10_before_21 a0 a2 a3 q2.1 x4 q2.2
set_option maxHeartbeats 4000000 in
set_option maxRecDepth 100000 in
theorem q_X10_before_0 {a0 : Nat} {a1 : Int32} {a2 : Int32} {a3 : Int32} {h hE : AH} {v : Int32} (hf : b_X10_before_0 a0 a1 a2 a3 h = some (v, hE)) : JD cX10_before 8 RX10 "before" (some .int) (147) 0 [(0, .inr (.inr (a0))), (1, .inl (a1)), (2, .inl (a2)), (3, .inl (a3))] [] h hE (some (.inl (v))) := by
  unfold b_X10_before_0 at hf
  obtain ⟨x1, e1, hf⟩ := bnd hf
  obtain ⟨⟨x2, h2⟩, e2, hf⟩ := bnd hf
  try dsimp only at hf
  have k2 := c_X10_programAt e2
  have m2 := (k2 default_g).1
  obtain ⟨x3, e3, hf⟩ := bnd hf
  obtain ⟨x4, e4, hf⟩ := bnd hf
  have mE : hp_n h2 ≤ hp_n hE ∧ hp_s h2 ≤ hp_s hE := by
    by_cases hc : a2 < 0
    · rw [if_pos hc] at hf; exact (q_X10_before_42 hf).1
    · rw [if_neg hc] at hf; exact (q_X10_before_21 hf).1
  refine ⟨by omega, fun X g K ok nmx lev hK en => ?_⟩
  refine tj_aload_n ok 0 dX10_before_0 rfl rfl ?_
  refine tj_iload_n ok 1 dX10_before_1 rfl rfl ?_
  refine tj_callV (rest := ([] : List TV).map (vl g)) (as := [.inl (a1)]) ok lev (by omega) fcX10.1 (by decide) rfl (of_if e1).1 (k2 g) (CaX.of en (by omega)) kn_X10_programAt wm_1168 wm_1169 wm_1170 (rs_ok (Nat.le_of_ble_eq_true rfl)) rfl rfl dX10_before_2 ?_
  refine tj_astore (lv' := [(0, .inr (.inr (a0))), (1, .inl (a1)), (2, .inl (a2)), (3, .inl (a3)), (4, .inr (.inr (x2)))]) ok dX10_before_5 (by decide) rfl ?_
  refine tj_aload ok 4 dX10_before_7 rfl ?_
  refine tj_getR (k := 0) ok fcX5 (by decide) wm_1171 rfl (Or.inl ⟨_, rfl⟩) dX10_before_9 e3 ?_
  refine tj_getI (k := 12) ok fcX0 (by decide) wm_1167 rfl (Or.inl rfl) dX10_before_12 e4 ?_
  refine tj_istore (lv' := [(0, .inr (.inr (a0))), (1, .inl (a1)), (2, .inl (a2)), (3, .inl (a3)), (4, .inr (.inr (x2))), (5, .inl (x4))]) ok dX10_before_15 (by decide) rfl ?_
  refine tj_iload_n ok 2 dX10_before_17 rfl rfl ?_
  refine tj_if_lt (tgt := 42) ok dX10_before_18 (by decide) (fun hc => ?_) (fun hc => ?_)
  · rw [if_pos hc] at hf
    refine tj_sub (lv' := []) [] rfl ?_
    exact (q_X10_before_42 hf).2 X g K ok nmx lev hK en
  · rw [if_neg hc] at hf
    refine tj_sub (lv' := [(0, .inr (.inr (a0))), (2, .inl (a2)), (3, .inl (a3)), (4, .inr (.inr (x2))), (5, .inl (x4))]) [0, 2, 3, 4, 5] rfl ?_
    exact (q_X10_before_21 hf).2 X g K ok nmx lev hK en
def f_X10_before (a0 : Nat) (a1 : Int32) (a2 : Int32) (a3 : Int32) (h : AH) : Option (Int32 × AH) := b_X10_before_0  a0 a1 a2 a3 h
theorem c_X10_before {a0 : Nat} {a1 : Int32} {a2 : Int32} {a3 : Int32} {h hE : AH} {v : Int32} (hf : f_X10_before a0 a1 a2 a3 h = some (v, hE)) : ∀ g : GT, CM g (147) yX10_before cX10_before 8 (some .int) h [.inr (.inr (a0)), .inl (a1), .inl (a2), .inl (a3)] hE (some (.inl (v))) :=
  CM.ofJ (by decide) (by show _ ≤ 8; exact Nat.le_of_ble_eq_true rfl) (q_X10_before_0 hf)
set_option maxHeartbeats 4000000 in
set_option maxRecDepth 100000 in
theorem t_X10_before_0 {a0 : Nat} {a1 : Int32} {a2 : Int32} {a3 : Int32} {h hE : AH} {E : Nat} {x1 : Unit} (e1 : ok_v h a0 10 = some x1) (hx : ∀ g : GT, CT g 10 yX10_programAt cX10_programAt 3 (some (.object "LitmusHouse$Program")) h [.inr (.inr (a0)), .inl (a1)] hE E) : ∀ g : GT, CT g 12 yX10_before cX10_before 8 (some .int) h [.inr (.inr (a0)), .inl (a1), .inl (a2), .inl (a3)] hE E := by
  intro g
  have mE := (hx g).1
  refine CT.of (by decide) (by show _ ≤ 8; exact Nat.le_of_ble_eq_true rfl) (by omega) (fun X ok nmx lev th => ?_)
  refine tj_aload_n ok 0 dX10_before_0 rfl rfl ?_
  refine tj_iload_n ok 1 dX10_before_1 rfl rfl ?_
  exact tj_xV (rest := ([] : List TV).map (vl g)) (as := [.inl (a1)]) ok lev (by omega) fcX10.1 (by decide) rfl (of_if e1).1 (hx g) th kn_X10_programAt wm_1168 wm_1169 wm_1170 (rs_ok (Nat.le_of_ble_eq_true rfl)) rfl dX10_before_2
/-! ===== LitmusHouse.drop(I)Z ===== -/
def b_X10_drop_18 (a0 : Nat) (a1 : Int32) (s0 : Int32) (h : AH) : Option (Int32 × AH) :=
  (g_r h a0 10 1).bind fun x1 => (s_r h x1 a1 0).bind fun h2 => ok_z s0 h2
set_option maxHeartbeats 4000000 in
set_option maxRecDepth 100000 in
theorem q_X10_drop_18 {a0 : Nat} {a1 : Int32} {s0 : Int32} {h hE : AH} {v : Int32} (hf : b_X10_drop_18 a0 a1 s0 h = some (v, hE)) : JD cX10_drop 3 RX10 "drop" (some .boolean) (3) 18 [(0, .inr (.inr (a0))), (1, .inl (a1))] [.inl (s0)] h hE (some (.inl (v))) := by
  unfold b_X10_drop_18 at hf
  obtain ⟨x1, e1, hf⟩ := bnd hf
  obtain ⟨h2, e2, hf⟩ := bnd hf
  have m2 := nn_sr e2
  have mE : hp_n h2 ≤ hp_n hE ∧ hp_s h2 ≤ hp_s hE := by obtain ⟨-, q⟩ := of_if hf; cases q; exact ⟨Nat.le_refl _, Nat.le_refl _⟩
  refine ⟨by omega, fun X g K ok nmx lev hK en => ?_⟩
  refine tj_istore_n (lv' := [(0, .inr (.inr (a0))), (1, .inl (a1)), (2, .inl (s0))]) ok dX10_drop_18 rfl (by decide) rfl ?_
  refine tj_aload_n ok 0 dX10_drop_19 rfl rfl ?_
  refine tj_getR (k := 1) ok fcX10 (by decide) wm_199 rfl (Or.inr ⟨_, rfl⟩) dX10_drop_20 e1 ?_
  refine tj_iload_n ok 1 dX10_drop_23 rfl rfl ?_
  refine tj_null ok dX10_drop_24 ?_
  refine tj_aastore ok dX10_drop_25 e2 ?_
  refine tj_iload_n ok 2 dX10_drop_26 rfl rfl ?_
  exact tj_zreturn ok hf en dX10_drop_27
def b_X10_drop_17 (a0 : Nat) (a1 : Int32) (h : AH) : Option (Int32 × AH) :=
  b_X10_drop_18 a0 a1 (0 : Int32) h
set_option maxHeartbeats 4000000 in
set_option maxRecDepth 100000 in
theorem q_X10_drop_17 {a0 : Nat} {a1 : Int32} {h hE : AH} {v : Int32} (hf : b_X10_drop_17 a0 a1 h = some (v, hE)) : JD cX10_drop 3 RX10 "drop" (some .boolean) (3) 17 [(0, .inr (.inr (a0))), (1, .inl (a1))] [] h hE (some (.inl (v))) := by
  unfold b_X10_drop_17 at hf
  have J := q_X10_drop_18 hf
  have mE := J.1
  refine ⟨by omega, fun X g K ok nmx lev hK en => ?_⟩
  refine tj_iconst (v := 0) ok dX10_drop_17 (by decide) ?_
  exact J.2 X g K ok nmx lev hK en
def b_X10_drop_13 (a0 : Nat) (a1 : Int32) (h : AH) : Option (Int32 × AH) :=
  b_X10_drop_18 a0 a1 (1 : Int32) h
set_option maxHeartbeats 4000000 in
set_option maxRecDepth 100000 in
theorem q_X10_drop_13 {a0 : Nat} {a1 : Int32} {h hE : AH} {v : Int32} (hf : b_X10_drop_13 a0 a1 h = some (v, hE)) : JD cX10_drop 3 RX10 "drop" (some .boolean) (3) 13 [(0, .inr (.inr (a0))), (1, .inl (a1))] [] h hE (some (.inl (v))) := by
  unfold b_X10_drop_13 at hf
  have J := q_X10_drop_18 hf
  have mE := J.1
  refine ⟨by omega, fun X g K ok nmx lev hK en => ?_⟩
  refine tj_iconst (v := 1) ok dX10_drop_13 (by decide) ?_
  refine tj_goto (tgt := 18) ok dX10_drop_14 (by decide) ?_
  exact J.2 X g K ok nmx lev hK en
def b_X10_drop_0 (a0 : Nat) (a1 : Int32) (h : AH) : Option (Int32 × AH) :=
  (f_X10_demandPlace a1 h).bind fun h1 => (g_r h1 a0 10 1).bind fun x2 => (l_r h1 x2 a1).bind fun x3 => if x3 = 0 then b_X10_drop_17 a0 a1 h1 else b_X10_drop_13 a0 a1 h1
set_option maxHeartbeats 4000000 in
set_option maxRecDepth 100000 in
theorem q_X10_drop_0 {a0 : Nat} {a1 : Int32} {h hE : AH} {v : Int32} (hf : b_X10_drop_0 a0 a1 h = some (v, hE)) : JD cX10_drop 3 RX10 "drop" (some .boolean) (3) 0 [(0, .inr (.inr (a0))), (1, .inl (a1))] [] h hE (some (.inl (v))) := by
  unfold b_X10_drop_0 at hf
  obtain ⟨h1, e1, hf⟩ := bnd hf
  have k1 := c_X10_demandPlace e1
  have m1 := (k1 default_g).1
  obtain ⟨x2, e2, hf⟩ := bnd hf
  obtain ⟨x3, e3, hf⟩ := bnd hf
  have mE : hp_n h1 ≤ hp_n hE ∧ hp_s h1 ≤ hp_s hE := by
    by_cases hc : x3 = 0
    · rw [if_pos hc] at hf; exact (q_X10_drop_17 hf).1
    · rw [if_neg hc] at hf; exact (q_X10_drop_13 hf).1
  refine ⟨by omega, fun X g K ok nmx lev hK en => ?_⟩
  refine tj_iload_n ok 1 dX10_drop_0 rfl rfl ?_
  refine tj_callS (rest := ([] : List TV).map (vl g)) (as := [.inl (a1)]) ok lev (by omega) (k1 g) (CaX.of en (by omega)) kn_X10_demandPlace wm_1159 wm_1160 (rs_ok (Nat.le_of_ble_eq_true rfl)) rfl rfl dX10_drop_1 ?_
  refine tj_aload_n ok 0 dX10_drop_4 rfl rfl ?_
  refine tj_getR (k := 1) ok fcX10 (by decide) wm_199 rfl (Or.inr ⟨_, rfl⟩) dX10_drop_5 e2 ?_
  refine tj_iload_n ok 1 dX10_drop_8 rfl rfl ?_
  refine tj_aaload ok dX10_drop_9 e3 ?_
  refine tj_ifnull (tgt := 17) ok dX10_drop_10 (by decide) (fun hc => ?_) (fun hc => ?_)
  · rw [if_pos hc] at hf
    exact (q_X10_drop_17 hf).2 X g K ok nmx lev hK en
  · rw [if_neg hc] at hf
    exact (q_X10_drop_13 hf).2 X g K ok nmx lev hK en
def f_X10_drop (a0 : Nat) (a1 : Int32) (h : AH) : Option (Int32 × AH) := b_X10_drop_0  a0 a1 h
theorem c_X10_drop {a0 : Nat} {a1 : Int32} {h hE : AH} {v : Int32} (hf : f_X10_drop a0 a1 h = some (v, hE)) : ∀ g : GT, CM g (3) yX10_drop cX10_drop 3 (some .boolean) h [.inr (.inr (a0)), .inl (a1)] hE (some (.inl (v))) :=
  CM.ofJ (by decide) (by show _ ≤ 3; exact Nat.le_of_ble_eq_true rfl) (q_X10_drop_0 hf)
set_option maxHeartbeats 4000000 in
set_option maxRecDepth 100000 in
theorem t_X10_drop_0 {a0 : Nat} {a1 : Int32} {h hE : AH} {E : Nat} (hx : ∀ g : GT, CT g 8 yX10_demandPlace cX10_demandPlace 1 none h [.inl (a1)] hE E) : ∀ g : GT, CT g 12 yX10_drop cX10_drop 3 (some .boolean) h [.inr (.inr (a0)), .inl (a1)] hE E := by
  intro g
  have mE := (hx g).1
  refine CT.of (by decide) (by show _ ≤ 3; exact Nat.le_of_ble_eq_true rfl) (by omega) (fun X ok nmx lev th => ?_)
  refine tj_iload_n ok 1 dX10_drop_0 rfl rfl ?_
  exact tj_xS (rest := ([] : List TV).map (vl g)) (as := [.inl (a1)]) ok lev (by omega) (hx g) th kn_X10_demandPlace wm_1159 wm_1160 (rs_ok (Nat.le_of_ble_eq_true rfl)) rfl dX10_drop_1
/-! ===== LitmusHouse.fence(II)I ===== -/
def b_X10_fence_119  (h : AH) : Option (Int32 × AH) :=
  some ((-1 : Int32), h)
set_option maxHeartbeats 4000000 in
set_option maxRecDepth 100000 in
theorem q_X10_fence_119 {h hE : AH} {v : Int32} (hf : b_X10_fence_119  h = some (v, hE)) : JD cX10_fence 8 RX10 "fence" (some .int) (147) 119 [] [] h hE (some (.inl (v))) := by
  unfold b_X10_fence_119 at hf
  obtain ⟨hv, hh⟩ := Prod.mk.inj (Option.some.inj hf)
  subst hv
  subst hh
  have mE : hp_n h ≤ hp_n h ∧ hp_s h ≤ hp_s h := ⟨Nat.le_refl _, Nat.le_refl _⟩
  refine ⟨by omega, fun X g K ok nmx lev hK en => ?_⟩
  refine tj_iconst (v := -1) ok dX10_fence_119 (by decide) ?_
  exact tj_ireturn ok en dX10_fence_120
def b_X10_fence_113 (r52 : Nat → Int32 → Nat → Nat → Int32 → Int32 → AH → Option (Int32 × AH)) (a0 : Nat) (a2 : Int32) (a3 : Nat) (a4 : Nat) (a5 : Int32) (a6 : Int32) (h : AH) : Option (Int32 × AH) :=
  r52 a0 a2 a3 a4 a5 (a6 + (1 : Int32)) h
set_option maxHeartbeats 4000000 in
set_option maxRecDepth 100000 in
theorem q_X10_fence_113 {hE : AH} {v : Int32} {r52 : Nat → Int32 → Nat → Nat → Int32 → Int32 → AH → Option (Int32 × AH)} (hr52 : ∀ (b0 : Nat) (b2 : Int32) (b3 : Nat) (b4 : Nat) (b5 : Int32) (b6 : Int32) (h : AH), r52 b0 b2 b3 b4 b5 b6 h = some (v, hE) → JD cX10_fence 8 RX10 "fence" (some .int) (147) 52 [(0, .inr (.inr (b0))), (2, .inl (b2)), (3, .inr (.inr (b3))), (4, .inr (.inr (b4))), (5, .inl (b5)), (6, .inl (b6))] [] h hE (some (.inl (v)))) {a0 : Nat} {a2 : Int32} {a3 : Nat} {a4 : Nat} {a5 : Int32} {a6 : Int32} {h : AH} (hf : b_X10_fence_113 r52 a0 a2 a3 a4 a5 a6 h = some (v, hE)) : JD cX10_fence 8 RX10 "fence" (some .int) (147) 113 [(0, .inr (.inr (a0))), (2, .inl (a2)), (3, .inr (.inr (a3))), (4, .inr (.inr (a4))), (5, .inl (a5)), (6, .inl (a6))] [] h hE (some (.inl (v))) := by
  unfold b_X10_fence_113 at hf
  have J := hr52 _ _ _ _ _ _ _ hf
  have mE := J.1
  refine ⟨by omega, fun X g K ok nmx lev hK en => ?_⟩
  refine tj_iinc (lv' := [(0, .inr (.inr (a0))), (2, .inl (a2)), (3, .inr (.inr (a3))), (4, .inr (.inr (a4))), (5, .inl (a5)), (6, .inl (a6 + (1 : Int32)))]) ok 5 dX10_fence_113 rfl (rfl) (by decide) rfl ?_
  refine tj_goto (tgt := 52) ok dX10_fence_116 (by decide) ?_
  exact J.2 X g K ok nmx lev hK en
def b_X10_fence_107 (r52 : Nat → Int32 → Nat → Nat → Int32 → Int32 → AH → Option (Int32 × AH)) (r61 : Nat → Int32 → Nat → Nat → Int32 → Int32 → Int32 → AH → Option (Int32 × AH)) (a0 : Nat) (a2 : Int32) (a3 : Nat) (a4 : Nat) (a5 : Int32) (a6 : Int32) (a7 : Int32) (h : AH) : Option (Int32 × AH) :=
  r61 a0 a2 a3 a4 a5 a6 (a7 + (1 : Int32)) h
set_option maxHeartbeats 4000000 in
set_option maxRecDepth 100000 in
theorem q_X10_fence_107 {hE : AH} {v : Int32} {r52 : Nat → Int32 → Nat → Nat → Int32 → Int32 → AH → Option (Int32 × AH)} (hr52 : ∀ (b0 : Nat) (b2 : Int32) (b3 : Nat) (b4 : Nat) (b5 : Int32) (b6 : Int32) (h : AH), r52 b0 b2 b3 b4 b5 b6 h = some (v, hE) → JD cX10_fence 8 RX10 "fence" (some .int) (147) 52 [(0, .inr (.inr (b0))), (2, .inl (b2)), (3, .inr (.inr (b3))), (4, .inr (.inr (b4))), (5, .inl (b5)), (6, .inl (b6))] [] h hE (some (.inl (v)))) {r61 : Nat → Int32 → Nat → Nat → Int32 → Int32 → Int32 → AH → Option (Int32 × AH)} (hr61 : ∀ (b0 : Nat) (b2 : Int32) (b3 : Nat) (b4 : Nat) (b5 : Int32) (b6 : Int32) (b7 : Int32) (h : AH), r61 b0 b2 b3 b4 b5 b6 b7 h = some (v, hE) → JD cX10_fence 8 RX10 "fence" (some .int) (147) 61 [(0, .inr (.inr (b0))), (2, .inl (b2)), (3, .inr (.inr (b3))), (4, .inr (.inr (b4))), (5, .inl (b5)), (6, .inl (b6)), (7, .inl (b7))] [] h hE (some (.inl (v)))) {a0 : Nat} {a2 : Int32} {a3 : Nat} {a4 : Nat} {a5 : Int32} {a6 : Int32} {a7 : Int32} {h : AH} (hf : b_X10_fence_107 r52 r61 a0 a2 a3 a4 a5 a6 a7 h = some (v, hE)) : JD cX10_fence 8 RX10 "fence" (some .int) (147) 107 [(0, .inr (.inr (a0))), (2, .inl (a2)), (3, .inr (.inr (a3))), (4, .inr (.inr (a4))), (5, .inl (a5)), (6, .inl (a6)), (7, .inl (a7))] [] h hE (some (.inl (v))) := by
  unfold b_X10_fence_107 at hf
  have J := hr61 _ _ _ _ _ _ _ _ hf
  have mE := J.1
  refine ⟨by omega, fun X g K ok nmx lev hK en => ?_⟩
  refine tj_iinc (lv' := [(0, .inr (.inr (a0))), (2, .inl (a2)), (3, .inr (.inr (a3))), (4, .inr (.inr (a4))), (5, .inl (a5)), (6, .inl (a6)), (7, .inl (a7 + (1 : Int32)))]) ok 6 dX10_fence_107 rfl (rfl) (by decide) rfl ?_
  refine tj_goto (tgt := 61) ok dX10_fence_110 (by decide) ?_
  exact J.2 X g K ok nmx lev hK en
def b_X10_fence_104 (a7 : Int32) (h : AH) : Option (Int32 × AH) :=
  some (a7, h)
set_option maxHeartbeats 4000000 in
set_option maxRecDepth 100000 in
theorem q_X10_fence_104 {a7 : Int32} {h hE : AH} {v : Int32} (hf : b_X10_fence_104 a7 h = some (v, hE)) : JD cX10_fence 8 RX10 "fence" (some .int) (147) 104 [(7, .inl (a7))] [] h hE (some (.inl (v))) := by
  unfold b_X10_fence_104 at hf
  obtain ⟨hv, hh⟩ := Prod.mk.inj (Option.some.inj hf)
  subst hv
  subst hh
  have mE : hp_n h ≤ hp_n h ∧ hp_s h ≤ hp_s h := ⟨Nat.le_refl _, Nat.le_refl _⟩
  refine ⟨by omega, fun X g K ok nmx lev hK en => ?_⟩
  refine tj_iload ok 0 dX10_fence_104 rfl ?_
  exact tj_ireturn ok en dX10_fence_106
def b_X10_fence_88 (r52 : Nat → Int32 → Nat → Nat → Int32 → Int32 → AH → Option (Int32 × AH)) (r61 : Nat → Int32 → Nat → Nat → Int32 → Int32 → Int32 → AH → Option (Int32 × AH)) (a0 : Nat) (a2 : Int32) (a3 : Nat) (a4 : Nat) (a5 : Int32) (a6 : Int32) (a7 : Int32) (h : AH) : Option (Int32 × AH) :=
  (g_r h a0 10 5).bind fun x1 => (ok_v h x1 8).bind fun x2 => (f_X8_staysWithin x1 a3 a2 a7 a4 h).bind fun q3 => if q3.1 = 0 then b_X10_fence_107 r52 r61 a0 a2 a3 a4 a5 a6 a7 q3.2 else b_X10_fence_104 a7 q3.2
set_option maxHeartbeats 4000000 in
set_option maxRecDepth 100000 in
theorem q_X10_fence_88 {hE : AH} {v : Int32} {r52 : Nat → Int32 → Nat → Nat → Int32 → Int32 → AH → Option (Int32 × AH)} (hr52 : ∀ (b0 : Nat) (b2 : Int32) (b3 : Nat) (b4 : Nat) (b5 : Int32) (b6 : Int32) (h : AH), r52 b0 b2 b3 b4 b5 b6 h = some (v, hE) → JD cX10_fence 8 RX10 "fence" (some .int) (147) 52 [(0, .inr (.inr (b0))), (2, .inl (b2)), (3, .inr (.inr (b3))), (4, .inr (.inr (b4))), (5, .inl (b5)), (6, .inl (b6))] [] h hE (some (.inl (v)))) {r61 : Nat → Int32 → Nat → Nat → Int32 → Int32 → Int32 → AH → Option (Int32 × AH)} (hr61 : ∀ (b0 : Nat) (b2 : Int32) (b3 : Nat) (b4 : Nat) (b5 : Int32) (b6 : Int32) (b7 : Int32) (h : AH), r61 b0 b2 b3 b4 b5 b6 b7 h = some (v, hE) → JD cX10_fence 8 RX10 "fence" (some .int) (147) 61 [(0, .inr (.inr (b0))), (2, .inl (b2)), (3, .inr (.inr (b3))), (4, .inr (.inr (b4))), (5, .inl (b5)), (6, .inl (b6)), (7, .inl (b7))] [] h hE (some (.inl (v)))) {a0 : Nat} {a2 : Int32} {a3 : Nat} {a4 : Nat} {a5 : Int32} {a6 : Int32} {a7 : Int32} {h : AH} (hf : b_X10_fence_88 r52 r61 a0 a2 a3 a4 a5 a6 a7 h = some (v, hE)) : JD cX10_fence 8 RX10 "fence" (some .int) (147) 88 [(0, .inr (.inr (a0))), (2, .inl (a2)), (3, .inr (.inr (a3))), (4, .inr (.inr (a4))), (5, .inl (a5)), (6, .inl (a6)), (7, .inl (a7))] [] h hE (some (.inl (v))) := by
  unfold b_X10_fence_88 at hf
  obtain ⟨x1, e1, hf⟩ := bnd hf
  obtain ⟨x2, e2, hf⟩ := bnd hf
  obtain ⟨⟨x3, h3⟩, e3, hf⟩ := bnd hf
  try dsimp only at hf
  have k3 := c_X8_staysWithin e3
  have m3 := (k3 default_g).1
  have mE : hp_n h3 ≤ hp_n hE ∧ hp_s h3 ≤ hp_s hE := by
    by_cases hc : x3 = 0
    · rw [if_pos hc] at hf; exact (q_X10_fence_107 hr52 hr61 hf).1
    · rw [if_neg hc] at hf; exact (q_X10_fence_104 hf).1
  refine ⟨by omega, fun X g K ok nmx lev hK en => ?_⟩
  refine tj_aload_n ok 0 dX10_fence_88 rfl rfl ?_
  refine tj_getR (k := 5) ok fcX10 (by decide) wm_212 rfl (Or.inl ⟨_, rfl⟩) dX10_fence_89 e1 ?_
  refine tj_aload_n ok 2 dX10_fence_92 rfl rfl ?_
  refine tj_iload_n ok 1 dX10_fence_93 rfl rfl ?_
  refine tj_iload ok 6 dX10_fence_94 rfl ?_
  refine tj_aload ok 3 dX10_fence_96 rfl ?_
  refine tj_callV (rest := ([] : List TV).map (vl g)) (as := [.inr (.inr (a3)), .inl (a2), .inl (a7), .inr (.inr (a4))]) ok lev (by omega) fcX8.1 (by decide) rfl (of_if e2).1 (k3 g) (CaX.of en (by omega)) kn_X8_staysWithin wm_1185 wm_1186 wm_1187 (rs_ok (Nat.le_of_ble_eq_true rfl)) rfl rfl dX10_fence_98 ?_
  refine tj_if_eq (tgt := 107) ok dX10_fence_101 (by decide) (fun hc => ?_) (fun hc => ?_)
  · rw [if_pos hc] at hf
    exact (q_X10_fence_107 hr52 hr61 hf).2 X g K ok nmx lev hK en
  · rw [if_neg hc] at hf
    refine tj_sub (lv' := [(7, .inl (a7))]) [6] rfl ?_
    exact (q_X10_fence_104 hf).2 X g K ok nmx lev hK en
def b_X10_fence_78 (r52 : Nat → Int32 → Nat → Nat → Int32 → Int32 → AH → Option (Int32 × AH)) (r61 : Nat → Int32 → Nat → Nat → Int32 → Int32 → Int32 → AH → Option (Int32 × AH)) (a0 : Nat) (a2 : Int32) (a3 : Nat) (a4 : Nat) (a5 : Int32) (a6 : Int32) (a7 : Int32) (h : AH) : Option (Int32 × AH) :=
  (f_J6_bitCount_0f7a4 a7 h).bind fun q1 => if q1.1 = a6 then b_X10_fence_88 r52 r61 a0 a2 a3 a4 a5 a6 a7 q1.2 else b_X10_fence_107 r52 r61 a0 a2 a3 a4 a5 a6 a7 q1.2
set_option maxHeartbeats 4000000 in
set_option maxRecDepth 100000 in
theorem q_X10_fence_78 {hE : AH} {v : Int32} {r52 : Nat → Int32 → Nat → Nat → Int32 → Int32 → AH → Option (Int32 × AH)} (hr52 : ∀ (b0 : Nat) (b2 : Int32) (b3 : Nat) (b4 : Nat) (b5 : Int32) (b6 : Int32) (h : AH), r52 b0 b2 b3 b4 b5 b6 h = some (v, hE) → JD cX10_fence 8 RX10 "fence" (some .int) (147) 52 [(0, .inr (.inr (b0))), (2, .inl (b2)), (3, .inr (.inr (b3))), (4, .inr (.inr (b4))), (5, .inl (b5)), (6, .inl (b6))] [] h hE (some (.inl (v)))) {r61 : Nat → Int32 → Nat → Nat → Int32 → Int32 → Int32 → AH → Option (Int32 × AH)} (hr61 : ∀ (b0 : Nat) (b2 : Int32) (b3 : Nat) (b4 : Nat) (b5 : Int32) (b6 : Int32) (b7 : Int32) (h : AH), r61 b0 b2 b3 b4 b5 b6 b7 h = some (v, hE) → JD cX10_fence 8 RX10 "fence" (some .int) (147) 61 [(0, .inr (.inr (b0))), (2, .inl (b2)), (3, .inr (.inr (b3))), (4, .inr (.inr (b4))), (5, .inl (b5)), (6, .inl (b6)), (7, .inl (b7))] [] h hE (some (.inl (v)))) {a0 : Nat} {a2 : Int32} {a3 : Nat} {a4 : Nat} {a5 : Int32} {a6 : Int32} {a7 : Int32} {h : AH} (hf : b_X10_fence_78 r52 r61 a0 a2 a3 a4 a5 a6 a7 h = some (v, hE)) : JD cX10_fence 8 RX10 "fence" (some .int) (147) 78 [(0, .inr (.inr (a0))), (2, .inl (a2)), (3, .inr (.inr (a3))), (4, .inr (.inr (a4))), (5, .inl (a5)), (6, .inl (a6)), (7, .inl (a7))] [] h hE (some (.inl (v))) := by
  unfold b_X10_fence_78 at hf
  obtain ⟨⟨x1, h1⟩, e1, hf⟩ := bnd hf
  try dsimp only at hf
  have k1 := c_J6_bitCount_0f7a4 e1
  have m1 := (k1 default_g).1
  have mE : hp_n h1 ≤ hp_n hE ∧ hp_s h1 ≤ hp_s hE := by
    by_cases hc : x1 = a6
    · rw [if_pos hc] at hf; exact (q_X10_fence_88 hr52 hr61 hf).1
    · rw [if_neg hc] at hf; exact (q_X10_fence_107 hr52 hr61 hf).1
  refine ⟨by omega, fun X g K ok nmx lev hK en => ?_⟩
  refine tj_iload ok 6 dX10_fence_78 rfl ?_
  refine tj_callS (rest := ([] : List TV).map (vl g)) (as := [.inl (a7)]) ok lev (by omega) (k1 g) (CaX.of en (by omega)) kn_J6_bitCount_0f7a4 wm_1188 wm_973 (rs_ok (Nat.le_of_ble_eq_true rfl)) rfl rfl dX10_fence_80 ?_
  refine tj_iload ok 5 dX10_fence_83 rfl ?_
  refine tj_icmp_ne (tgt := 107) ok dX10_fence_85 (by decide) (fun hc => ?_) (fun hc => ?_)
  · rw [if_neg hc] at hf
    exact (q_X10_fence_107 hr52 hr61 hf).2 X g K ok nmx lev hK en
  · rw [if_pos hc] at hf
    exact (q_X10_fence_88 hr52 hr61 hf).2 X g K ok nmx lev hK en
def b_X10_fence_68 (r52 : Nat → Int32 → Nat → Nat → Int32 → Int32 → AH → Option (Int32 × AH)) (r61 : Nat → Int32 → Nat → Nat → Int32 → Int32 → Int32 → AH → Option (Int32 × AH)) (a0 : Nat) (a2 : Int32) (a3 : Nat) (a4 : Nat) (a5 : Int32) (a6 : Int32) (a7 : Int32) (h : AH) : Option (Int32 × AH) :=
  if (a7 &&& (a5 ^^^ (-1 : Int32))) = 0 then b_X10_fence_78 r52 r61 a0 a2 a3 a4 a5 a6 a7 h else b_X10_fence_107 r52 r61 a0 a2 a3 a4 a5 a6 a7 h
set_option maxHeartbeats 4000000 in
set_option maxRecDepth 100000 in
theorem q_X10_fence_68 {hE : AH} {v : Int32} {r52 : Nat → Int32 → Nat → Nat → Int32 → Int32 → AH → Option (Int32 × AH)} (hr52 : ∀ (b0 : Nat) (b2 : Int32) (b3 : Nat) (b4 : Nat) (b5 : Int32) (b6 : Int32) (h : AH), r52 b0 b2 b3 b4 b5 b6 h = some (v, hE) → JD cX10_fence 8 RX10 "fence" (some .int) (147) 52 [(0, .inr (.inr (b0))), (2, .inl (b2)), (3, .inr (.inr (b3))), (4, .inr (.inr (b4))), (5, .inl (b5)), (6, .inl (b6))] [] h hE (some (.inl (v)))) {r61 : Nat → Int32 → Nat → Nat → Int32 → Int32 → Int32 → AH → Option (Int32 × AH)} (hr61 : ∀ (b0 : Nat) (b2 : Int32) (b3 : Nat) (b4 : Nat) (b5 : Int32) (b6 : Int32) (b7 : Int32) (h : AH), r61 b0 b2 b3 b4 b5 b6 b7 h = some (v, hE) → JD cX10_fence 8 RX10 "fence" (some .int) (147) 61 [(0, .inr (.inr (b0))), (2, .inl (b2)), (3, .inr (.inr (b3))), (4, .inr (.inr (b4))), (5, .inl (b5)), (6, .inl (b6)), (7, .inl (b7))] [] h hE (some (.inl (v)))) {a0 : Nat} {a2 : Int32} {a3 : Nat} {a4 : Nat} {a5 : Int32} {a6 : Int32} {a7 : Int32} {h : AH} (hf : b_X10_fence_68 r52 r61 a0 a2 a3 a4 a5 a6 a7 h = some (v, hE)) : JD cX10_fence 8 RX10 "fence" (some .int) (147) 68 [(0, .inr (.inr (a0))), (2, .inl (a2)), (3, .inr (.inr (a3))), (4, .inr (.inr (a4))), (5, .inl (a5)), (6, .inl (a6)), (7, .inl (a7))] [] h hE (some (.inl (v))) := by
  unfold b_X10_fence_68 at hf
  have mE : hp_n h ≤ hp_n hE ∧ hp_s h ≤ hp_s hE := by
    by_cases hc : (a7 &&& (a5 ^^^ (-1 : Int32))) = 0
    · rw [if_pos hc] at hf; exact (q_X10_fence_78 hr52 hr61 hf).1
    · rw [if_neg hc] at hf; exact (q_X10_fence_107 hr52 hr61 hf).1
  refine ⟨by omega, fun X g K ok nmx lev hK en => ?_⟩
  refine tj_iload ok 6 dX10_fence_68 rfl ?_
  refine tj_iload ok 4 dX10_fence_70 rfl ?_
  refine tj_iconst (v := -1) ok dX10_fence_72 (by decide) ?_
  refine tj_ixor ok dX10_fence_73 ?_
  refine tj_iand ok dX10_fence_74 ?_
  refine tj_if_ne (tgt := 107) ok dX10_fence_75 (by decide) (fun hc => ?_) (fun hc => ?_)
  · rw [if_neg hc] at hf
    exact (q_X10_fence_107 hr52 hr61 hf).2 X g K ok nmx lev hK en
  · rw [if_pos hc] at hf
    exact (q_X10_fence_78 hr52 hr61 hf).2 X g K ok nmx lev hK en
def b_X10_fence_61 (r52 : Nat → Int32 → Nat → Nat → Int32 → Int32 → AH → Option (Int32 × AH)) (r61 : Nat → Int32 → Nat → Nat → Int32 → Int32 → Int32 → AH → Option (Int32 × AH)) (a0 : Nat) (a2 : Int32) (a3 : Nat) (a4 : Nat) (a5 : Int32) (a6 : Int32) (a7 : Int32) (h : AH) : Option (Int32 × AH) :=
  if (64 : Int32) ≤ a7 then b_X10_fence_113 r52 a0 a2 a3 a4 a5 a6 h else b_X10_fence_68 r52 r61 a0 a2 a3 a4 a5 a6 a7 h
set_option maxHeartbeats 4000000 in
set_option maxRecDepth 100000 in
theorem q_X10_fence_61 {hE : AH} {v : Int32} {r52 : Nat → Int32 → Nat → Nat → Int32 → Int32 → AH → Option (Int32 × AH)} (hr52 : ∀ (b0 : Nat) (b2 : Int32) (b3 : Nat) (b4 : Nat) (b5 : Int32) (b6 : Int32) (h : AH), r52 b0 b2 b3 b4 b5 b6 h = some (v, hE) → JD cX10_fence 8 RX10 "fence" (some .int) (147) 52 [(0, .inr (.inr (b0))), (2, .inl (b2)), (3, .inr (.inr (b3))), (4, .inr (.inr (b4))), (5, .inl (b5)), (6, .inl (b6))] [] h hE (some (.inl (v)))) {r61 : Nat → Int32 → Nat → Nat → Int32 → Int32 → Int32 → AH → Option (Int32 × AH)} (hr61 : ∀ (b0 : Nat) (b2 : Int32) (b3 : Nat) (b4 : Nat) (b5 : Int32) (b6 : Int32) (b7 : Int32) (h : AH), r61 b0 b2 b3 b4 b5 b6 b7 h = some (v, hE) → JD cX10_fence 8 RX10 "fence" (some .int) (147) 61 [(0, .inr (.inr (b0))), (2, .inl (b2)), (3, .inr (.inr (b3))), (4, .inr (.inr (b4))), (5, .inl (b5)), (6, .inl (b6)), (7, .inl (b7))] [] h hE (some (.inl (v)))) {a0 : Nat} {a2 : Int32} {a3 : Nat} {a4 : Nat} {a5 : Int32} {a6 : Int32} {a7 : Int32} {h : AH} (hf : b_X10_fence_61 r52 r61 a0 a2 a3 a4 a5 a6 a7 h = some (v, hE)) : JD cX10_fence 8 RX10 "fence" (some .int) (147) 61 [(0, .inr (.inr (a0))), (2, .inl (a2)), (3, .inr (.inr (a3))), (4, .inr (.inr (a4))), (5, .inl (a5)), (6, .inl (a6)), (7, .inl (a7))] [] h hE (some (.inl (v))) := by
  unfold b_X10_fence_61 at hf
  have mE : hp_n h ≤ hp_n hE ∧ hp_s h ≤ hp_s hE := by
    by_cases hc : (64 : Int32) ≤ a7
    · rw [if_pos hc] at hf; exact (q_X10_fence_113 hr52 hf).1
    · rw [if_neg hc] at hf; exact (q_X10_fence_68 hr52 hr61 hf).1
  refine ⟨by omega, fun X g K ok nmx lev hK en => ?_⟩
  refine tj_iload ok 6 dX10_fence_61 rfl ?_
  refine tj_bipush (v := 64) ok dX10_fence_63 (by decide) ?_
  refine tj_icmp_ge (tgt := 113) ok dX10_fence_65 (by decide) (fun hc => ?_) (fun hc => ?_)
  · rw [if_pos hc] at hf
    refine tj_sub (lv' := [(0, .inr (.inr (a0))), (2, .inl (a2)), (3, .inr (.inr (a3))), (4, .inr (.inr (a4))), (5, .inl (a5)), (6, .inl (a6))]) [0, 1, 2, 3, 4, 5] rfl ?_
    exact (q_X10_fence_113 hr52 hf).2 X g K ok nmx lev hK en
  · rw [if_neg hc] at hf
    exact (q_X10_fence_68 hr52 hr61 hf).2 X g K ok nmx lev hK en
def l_X10_fence_61 (r52 : Nat → Int32 → Nat → Nat → Int32 → Int32 → AH → Option (Int32 × AH)) : Nat → Nat → Int32 → Nat → Nat → Int32 → Int32 → Int32 → AH → Option (Int32 × AH)
  | 0 => fun _ _ _ _ _ _ _ _ => none
  | n + 1 => fun a0 a2 a3 a4 a5 a6 a7 h => b_X10_fence_61 r52 (l_X10_fence_61 r52 n) a0 a2 a3 a4 a5 a6 a7 h
theorem ql_X10_fence_61 {hE : AH} {v : Int32} {r52 : Nat → Int32 → Nat → Nat → Int32 → Int32 → AH → Option (Int32 × AH)} (hr52 : ∀ (b0 : Nat) (b2 : Int32) (b3 : Nat) (b4 : Nat) (b5 : Int32) (b6 : Int32) (h : AH), r52 b0 b2 b3 b4 b5 b6 h = some (v, hE) → JD cX10_fence 8 RX10 "fence" (some .int) (147) 52 [(0, .inr (.inr (b0))), (2, .inl (b2)), (3, .inr (.inr (b3))), (4, .inr (.inr (b4))), (5, .inl (b5)), (6, .inl (b6))] [] h hE (some (.inl (v)))) {n : Nat} {a0 : Nat} {a2 : Int32} {a3 : Nat} {a4 : Nat} {a5 : Int32} {a6 : Int32} {a7 : Int32} {h : AH} (hf : l_X10_fence_61 r52 n a0 a2 a3 a4 a5 a6 a7 h = some (v, hE)) : JD cX10_fence 8 RX10 "fence" (some .int) (147) 61 [(0, .inr (.inr (a0))), (2, .inl (a2)), (3, .inr (.inr (a3))), (4, .inr (.inr (a4))), (5, .inl (a5)), (6, .inl (a6)), (7, .inl (a7))] [] h hE (some (.inl (v))) := by
  induction n generalizing a0 a2 a3 a4 a5 a6 a7 h with
  | zero => cases hf
  | succ n ih => exact q_X10_fence_61 hr52 (fun _ _ _ _ _ _ _ _ hf => ih hf) hf
def b_X10_fence_58 (r52 : Nat → Int32 → Nat → Nat → Int32 → Int32 → AH → Option (Int32 × AH)) (a0 : Nat) (a2 : Int32) (a3 : Nat) (a4 : Nat) (a5 : Int32) (a6 : Int32) (h : AH) : Option (Int32 × AH) :=
  l_X10_fence_61 r52 fu_ a0 a2 a3 a4 a5 a6 (0 : Int32) h
set_option maxHeartbeats 4000000 in
set_option maxRecDepth 100000 in
theorem q_X10_fence_58 {hE : AH} {v : Int32} {r52 : Nat → Int32 → Nat → Nat → Int32 → Int32 → AH → Option (Int32 × AH)} (hr52 : ∀ (b0 : Nat) (b2 : Int32) (b3 : Nat) (b4 : Nat) (b5 : Int32) (b6 : Int32) (h : AH), r52 b0 b2 b3 b4 b5 b6 h = some (v, hE) → JD cX10_fence 8 RX10 "fence" (some .int) (147) 52 [(0, .inr (.inr (b0))), (2, .inl (b2)), (3, .inr (.inr (b3))), (4, .inr (.inr (b4))), (5, .inl (b5)), (6, .inl (b6))] [] h hE (some (.inl (v)))) {a0 : Nat} {a2 : Int32} {a3 : Nat} {a4 : Nat} {a5 : Int32} {a6 : Int32} {h : AH} (hf : b_X10_fence_58 r52 a0 a2 a3 a4 a5 a6 h = some (v, hE)) : JD cX10_fence 8 RX10 "fence" (some .int) (147) 58 [(0, .inr (.inr (a0))), (2, .inl (a2)), (3, .inr (.inr (a3))), (4, .inr (.inr (a4))), (5, .inl (a5)), (6, .inl (a6))] [] h hE (some (.inl (v))) := by
  unfold b_X10_fence_58 at hf
  have J := ql_X10_fence_61 hr52 hf
  have mE := J.1
  refine ⟨by omega, fun X g K ok nmx lev hK en => ?_⟩
  refine tj_iconst (v := 0) ok dX10_fence_58 (by decide) ?_
  refine tj_istore (lv' := [(0, .inr (.inr (a0))), (2, .inl (a2)), (3, .inr (.inr (a3))), (4, .inr (.inr (a4))), (5, .inl (a5)), (6, .inl (a6)), (7, .inl ((0 : Int32)))]) ok dX10_fence_59 (by decide) rfl ?_
  exact J.2 X g K ok nmx lev hK en
def b_X10_fence_52 (r52 : Nat → Int32 → Nat → Nat → Int32 → Int32 → AH → Option (Int32 × AH)) (a0 : Nat) (a2 : Int32) (a3 : Nat) (a4 : Nat) (a5 : Int32) (a6 : Int32) (h : AH) : Option (Int32 × AH) :=
  if (5 : Int32) < a6 then b_X10_fence_119 h else b_X10_fence_58 r52 a0 a2 a3 a4 a5 a6 h
set_option maxHeartbeats 4000000 in
set_option maxRecDepth 100000 in
theorem q_X10_fence_52 {hE : AH} {v : Int32} {r52 : Nat → Int32 → Nat → Nat → Int32 → Int32 → AH → Option (Int32 × AH)} (hr52 : ∀ (b0 : Nat) (b2 : Int32) (b3 : Nat) (b4 : Nat) (b5 : Int32) (b6 : Int32) (h : AH), r52 b0 b2 b3 b4 b5 b6 h = some (v, hE) → JD cX10_fence 8 RX10 "fence" (some .int) (147) 52 [(0, .inr (.inr (b0))), (2, .inl (b2)), (3, .inr (.inr (b3))), (4, .inr (.inr (b4))), (5, .inl (b5)), (6, .inl (b6))] [] h hE (some (.inl (v)))) {a0 : Nat} {a2 : Int32} {a3 : Nat} {a4 : Nat} {a5 : Int32} {a6 : Int32} {h : AH} (hf : b_X10_fence_52 r52 a0 a2 a3 a4 a5 a6 h = some (v, hE)) : JD cX10_fence 8 RX10 "fence" (some .int) (147) 52 [(0, .inr (.inr (a0))), (2, .inl (a2)), (3, .inr (.inr (a3))), (4, .inr (.inr (a4))), (5, .inl (a5)), (6, .inl (a6))] [] h hE (some (.inl (v))) := by
  unfold b_X10_fence_52 at hf
  have mE : hp_n h ≤ hp_n hE ∧ hp_s h ≤ hp_s hE := by
    by_cases hc : (5 : Int32) < a6
    · rw [if_pos hc] at hf; exact (q_X10_fence_119 hf).1
    · rw [if_neg hc] at hf; exact (q_X10_fence_58 hr52 hf).1
  refine ⟨by omega, fun X g K ok nmx lev hK en => ?_⟩
  refine tj_iload ok 5 dX10_fence_52 rfl ?_
  refine tj_iconst (v := 5) ok dX10_fence_54 (by decide) ?_
  refine tj_icmp_gt (tgt := 119) ok dX10_fence_55 (by decide) (fun hc => ?_) (fun hc => ?_)
  · rw [if_pos hc] at hf
    refine tj_sub (lv' := []) [] rfl ?_
    exact (q_X10_fence_119 hf).2 X g K ok nmx lev hK en
  · rw [if_neg hc] at hf
    exact (q_X10_fence_58 hr52 hf).2 X g K ok nmx lev hK en
def l_X10_fence_52 : Nat → Nat → Int32 → Nat → Nat → Int32 → Int32 → AH → Option (Int32 × AH)
  | 0 => fun _ _ _ _ _ _ _ => none
  | n + 1 => fun a0 a2 a3 a4 a5 a6 h => b_X10_fence_52 (l_X10_fence_52 n) a0 a2 a3 a4 a5 a6 h
theorem ql_X10_fence_52 {n : Nat} {a0 : Nat} {a2 : Int32} {a3 : Nat} {a4 : Nat} {a5 : Int32} {a6 : Int32} {h hE : AH} {v : Int32} (hf : l_X10_fence_52 n a0 a2 a3 a4 a5 a6 h = some (v, hE)) : JD cX10_fence 8 RX10 "fence" (some .int) (147) 52 [(0, .inr (.inr (a0))), (2, .inl (a2)), (3, .inr (.inr (a3))), (4, .inr (.inr (a4))), (5, .inl (a5)), (6, .inl (a6))] [] h hE (some (.inl (v))) := by
  induction n generalizing a0 a2 a3 a4 a5 a6 h with
  | zero => cases hf
  | succ n ih => exact q_X10_fence_52 (fun _ _ _ _ _ _ _ hf => ih hf) hf
def b_X10_fence_26 (a0 : Nat) (a2 : Int32) (a3 : Nat) (h : AH) : Option (Int32 × AH) :=
  (ok_v h a0 10).bind fun x1 => (f_X10_outcomesOf a0 a3 (0 : Int32) h).bind fun q2 => (ok_v q2.2 a3 5).bind fun x3 => (f_X5_cellsOfKind a3 (0 : Int32) q2.2).bind fun q4 => (g_r q4.2 a3 5 0).bind fun x5 => (ok_v q4.2 x5 0).bind fun x6 => (f_X0_touchedCells x5 q4.2).bind fun q7 => l_X10_fence_52 fu_ a0 a2 a3 q2.1 (q4.1 &&& q7.1) (0 : Int32) q7.2
set_option maxHeartbeats 4000000 in
set_option maxRecDepth 100000 in
theorem q_X10_fence_26 {a0 : Nat} {a2 : Int32} {a3 : Nat} {h hE : AH} {v : Int32} (hf : b_X10_fence_26 a0 a2 a3 h = some (v, hE)) : JD cX10_fence 8 RX10 "fence" (some .int) (147) 26 [(0, .inr (.inr (a0))), (2, .inl (a2)), (3, .inr (.inr (a3)))] [] h hE (some (.inl (v))) := by
  unfold b_X10_fence_26 at hf
  obtain ⟨x1, e1, hf⟩ := bnd hf
  obtain ⟨⟨x2, h2⟩, e2, hf⟩ := bnd hf
  try dsimp only at hf
  have k2 := c_X10_outcomesOf e2
  have m2 := (k2 default_g).1
  obtain ⟨x3, e3, hf⟩ := bnd hf
  obtain ⟨⟨x4, h4⟩, e4, hf⟩ := bnd hf
  try dsimp only at hf
  have k4 := c_X5_cellsOfKind e4
  have m4 := (k4 default_g).1
  obtain ⟨x5, e5, hf⟩ := bnd hf
  obtain ⟨x6, e6, hf⟩ := bnd hf
  obtain ⟨⟨x7, h7⟩, e7, hf⟩ := bnd hf
  try dsimp only at hf
  have k7 := c_X0_touchedCells e7
  have m7 := (k7 default_g).1
  have J := ql_X10_fence_52 hf
  have mE := J.1
  refine ⟨by omega, fun X g K ok nmx lev hK en => ?_⟩
  refine tj_aload_n ok 0 dX10_fence_26 rfl rfl ?_
  refine tj_aload_n ok 2 dX10_fence_27 rfl rfl ?_
  refine tj_iconst (v := 0) ok dX10_fence_28 (by decide) ?_
  refine tj_callV (rest := ([] : List TV).map (vl g)) (as := [.inr (.inr (a3)), .inl ((0 : Int32))]) ok lev (by omega) fcX10.1 (by decide) rfl (of_if e1).1 (k2 g) (CaX.of en (by omega)) kn_X10_outcomesOf wm_1174 wm_1175 wm_1176 (rs_ok (Nat.le_of_ble_eq_true rfl)) rfl rfl dX10_fence_29 ?_
  refine tj_astore (lv' := [(0, .inr (.inr (a0))), (2, .inl (a2)), (3, .inr (.inr (a3))), (4, .inr (.inr (x2)))]) ok dX10_fence_32 (by decide) rfl ?_
  refine tj_aload_n ok 2 dX10_fence_34 rfl rfl ?_
  refine tj_iconst (v := 0) ok dX10_fence_35 (by decide) ?_
  refine tj_callV (rest := ([] : List TV).map (vl g)) (as := [.inl ((0 : Int32))]) ok lev (by omega) fcX5.1 (by decide) rfl (of_if e3).1 (k4 g) (CaX.of en (by omega)) kn_X5_cellsOfKind wm_1189 wm_467 wm_468 (rs_ok (Nat.le_of_ble_eq_true rfl)) rfl rfl dX10_fence_36 ?_
  refine tj_aload_n ok 2 dX10_fence_39 rfl rfl ?_
  refine tj_getR (k := 0) ok fcX5 (by decide) wm_1171 rfl (Or.inl ⟨_, rfl⟩) dX10_fence_40 e5 ?_
  refine tj_callV (rest := ([.inl (x4)] : List TV).map (vl g)) (as := []) ok lev (by omega) fcX0.1 (by decide) rfl (of_if e6).1 (k7 g) (CaX.of en (by omega)) kn_X0_touchedCells wm_1190 wm_1191 wm_1192 (rs_ok (Nat.le_of_ble_eq_true rfl)) rfl rfl dX10_fence_43 ?_
  refine tj_iand ok dX10_fence_46 ?_
  refine tj_istore (lv' := [(0, .inr (.inr (a0))), (2, .inl (a2)), (3, .inr (.inr (a3))), (4, .inr (.inr (x2))), (5, .inl (x4 &&& x7))]) ok dX10_fence_47 (by decide) rfl ?_
  refine tj_iconst (v := 0) ok dX10_fence_49 (by decide) ?_
  refine tj_istore (lv' := [(0, .inr (.inr (a0))), (2, .inl (a2)), (3, .inr (.inr (a3))), (4, .inr (.inr (x2))), (5, .inl (x4 &&& x7)), (6, .inl ((0 : Int32)))]) ok dX10_fence_50 (by decide) rfl ?_
  exact J.2 X g K ok nmx lev hK en
def b_X10_fence_24  (h : AH) : Option (Int32 × AH) :=
  some ((-1 : Int32), h)
set_option maxHeartbeats 4000000 in
set_option maxRecDepth 100000 in
theorem q_X10_fence_24 {h hE : AH} {v : Int32} (hf : b_X10_fence_24  h = some (v, hE)) : JD cX10_fence 8 RX10 "fence" (some .int) (147) 24 [] [] h hE (some (.inl (v))) := by
  unfold b_X10_fence_24 at hf
  obtain ⟨hv, hh⟩ := Prod.mk.inj (Option.some.inj hf)
  subst hv
  subst hh
  have mE : hp_n h ≤ hp_n h ∧ hp_s h ≤ hp_s h := ⟨Nat.le_refl _, Nat.le_refl _⟩
  refine ⟨by omega, fun X g K ok nmx lev hK en => ?_⟩
  refine tj_iconst (v := -1) ok dX10_fence_24 (by decide) ?_
  exact tj_ireturn ok en dX10_fence_25
def b_X10_fence_16 (a0 : Nat) (a2 : Int32) (a3 : Nat) (h : AH) : Option (Int32 × AH) :=
  (ok_v h a3 5).bind fun x1 => (f_X5_cellsOfKind a3 (2 : Int32) h).bind fun q2 => if q2.1 = 0 then b_X10_fence_26 a0 a2 a3 q2.2 else b_X10_fence_24 q2.2
set_option maxHeartbeats 4000000 in
set_option maxRecDepth 100000 in
theorem q_X10_fence_16 {a0 : Nat} {a2 : Int32} {a3 : Nat} {h hE : AH} {v : Int32} (hf : b_X10_fence_16 a0 a2 a3 h = some (v, hE)) : JD cX10_fence 8 RX10 "fence" (some .int) (147) 16 [(0, .inr (.inr (a0))), (2, .inl (a2)), (3, .inr (.inr (a3)))] [] h hE (some (.inl (v))) := by
  unfold b_X10_fence_16 at hf
  obtain ⟨x1, e1, hf⟩ := bnd hf
  obtain ⟨⟨x2, h2⟩, e2, hf⟩ := bnd hf
  try dsimp only at hf
  have k2 := c_X5_cellsOfKind e2
  have m2 := (k2 default_g).1
  have mE : hp_n h2 ≤ hp_n hE ∧ hp_s h2 ≤ hp_s hE := by
    by_cases hc : x2 = 0
    · rw [if_pos hc] at hf; exact (q_X10_fence_26 hf).1
    · rw [if_neg hc] at hf; exact (q_X10_fence_24 hf).1
  refine ⟨by omega, fun X g K ok nmx lev hK en => ?_⟩
  refine tj_aload_n ok 2 dX10_fence_16 rfl rfl ?_
  refine tj_iconst (v := 2) ok dX10_fence_17 (by decide) ?_
  refine tj_callV (rest := ([] : List TV).map (vl g)) (as := [.inl ((2 : Int32))]) ok lev (by omega) fcX5.1 (by decide) rfl (of_if e1).1 (k2 g) (CaX.of en (by omega)) kn_X5_cellsOfKind wm_1189 wm_467 wm_468 (rs_ok (Nat.le_of_ble_eq_true rfl)) rfl rfl dX10_fence_18 ?_
  refine tj_if_eq (tgt := 26) ok dX10_fence_21 (by decide) (fun hc => ?_) (fun hc => ?_)
  · rw [if_pos hc] at hf
    exact (q_X10_fence_26 hf).2 X g K ok nmx lev hK en
  · rw [if_neg hc] at hf
    refine tj_sub (lv' := []) [] rfl ?_
    exact (q_X10_fence_24 hf).2 X g K ok nmx lev hK en
def b_X10_fence_11 (a0 : Nat) (a2 : Int32) (a3 : Nat) (h : AH) : Option (Int32 × AH) :=
  if a2 = (2 : Int32) then b_X10_fence_16 a0 a2 a3 h else b_X10_fence_24 h
set_option maxHeartbeats 4000000 in
set_option maxRecDepth 100000 in
theorem q_X10_fence_11 {a0 : Nat} {a2 : Int32} {a3 : Nat} {h hE : AH} {v : Int32} (hf : b_X10_fence_11 a0 a2 a3 h = some (v, hE)) : JD cX10_fence 8 RX10 "fence" (some .int) (147) 11 [(0, .inr (.inr (a0))), (2, .inl (a2)), (3, .inr (.inr (a3)))] [] h hE (some (.inl (v))) := by
  unfold b_X10_fence_11 at hf
  have mE : hp_n h ≤ hp_n hE ∧ hp_s h ≤ hp_s hE := by
    by_cases hc : a2 = (2 : Int32)
    · rw [if_pos hc] at hf; exact (q_X10_fence_16 hf).1
    · rw [if_neg hc] at hf; exact (q_X10_fence_24 hf).1
  refine ⟨by omega, fun X g K ok nmx lev hK en => ?_⟩
  refine tj_iload_n ok 1 dX10_fence_11 rfl rfl ?_
  refine tj_iconst (v := 2) ok dX10_fence_12 (by decide) ?_
  refine tj_icmp_ne (tgt := 24) ok dX10_fence_13 (by decide) (fun hc => ?_) (fun hc => ?_)
  · rw [if_neg hc] at hf
    refine tj_sub (lv' := []) [] rfl ?_
    exact (q_X10_fence_24 hf).2 X g K ok nmx lev hK en
  · rw [if_pos hc] at hf
    exact (q_X10_fence_16 hf).2 X g K ok nmx lev hK en
def b_X10_fence_0 (a0 : Nat) (a1 : Int32) (a2 : Int32) (h : AH) : Option (Int32 × AH) :=
  (ok_v h a0 10).bind fun x1 => (f_X10_programAt a0 a1 h).bind fun q2 => if a2 = (1 : Int32) then b_X10_fence_16 a0 a2 q2.1 q2.2 else b_X10_fence_11 a0 a2 q2.1 q2.2
set_option maxHeartbeats 4000000 in
set_option maxRecDepth 100000 in
theorem q_X10_fence_0 {a0 : Nat} {a1 : Int32} {a2 : Int32} {h hE : AH} {v : Int32} (hf : b_X10_fence_0 a0 a1 a2 h = some (v, hE)) : JD cX10_fence 8 RX10 "fence" (some .int) (147) 0 [(0, .inr (.inr (a0))), (1, .inl (a1)), (2, .inl (a2))] [] h hE (some (.inl (v))) := by
  unfold b_X10_fence_0 at hf
  obtain ⟨x1, e1, hf⟩ := bnd hf
  obtain ⟨⟨x2, h2⟩, e2, hf⟩ := bnd hf
  try dsimp only at hf
  have k2 := c_X10_programAt e2
  have m2 := (k2 default_g).1
  have mE : hp_n h2 ≤ hp_n hE ∧ hp_s h2 ≤ hp_s hE := by
    by_cases hc : a2 = (1 : Int32)
    · rw [if_pos hc] at hf; exact (q_X10_fence_16 hf).1
    · rw [if_neg hc] at hf; exact (q_X10_fence_11 hf).1
  refine ⟨by omega, fun X g K ok nmx lev hK en => ?_⟩
  refine tj_aload_n ok 0 dX10_fence_0 rfl rfl ?_
  refine tj_iload_n ok 1 dX10_fence_1 rfl rfl ?_
  refine tj_callV (rest := ([] : List TV).map (vl g)) (as := [.inl (a1)]) ok lev (by omega) fcX10.1 (by decide) rfl (of_if e1).1 (k2 g) (CaX.of en (by omega)) kn_X10_programAt wm_1168 wm_1169 wm_1170 (rs_ok (Nat.le_of_ble_eq_true rfl)) rfl rfl dX10_fence_2 ?_
  refine tj_astore_n (lv' := [(0, .inr (.inr (a0))), (1, .inl (a1)), (2, .inl (a2)), (3, .inr (.inr (x2)))]) ok dX10_fence_5 rfl (by decide) rfl ?_
  refine tj_iload_n ok 2 dX10_fence_6 rfl rfl ?_
  refine tj_iconst (v := 1) ok dX10_fence_7 (by decide) ?_
  refine tj_icmp_eq (tgt := 16) ok dX10_fence_8 (by decide) (fun hc => ?_) (fun hc => ?_)
  · rw [if_pos hc] at hf
    refine tj_sub (lv' := [(0, .inr (.inr (a0))), (2, .inl (a2)), (3, .inr (.inr (x2)))]) [0, 2, 3] rfl ?_
    exact (q_X10_fence_16 hf).2 X g K ok nmx lev hK en
  · rw [if_neg hc] at hf
    refine tj_sub (lv' := [(0, .inr (.inr (a0))), (2, .inl (a2)), (3, .inr (.inr (x2)))]) [0, 2, 3] rfl ?_
    exact (q_X10_fence_11 hf).2 X g K ok nmx lev hK en
def f_X10_fence (a0 : Nat) (a1 : Int32) (a2 : Int32) (h : AH) : Option (Int32 × AH) := b_X10_fence_0  a0 a1 a2 h
theorem c_X10_fence {a0 : Nat} {a1 : Int32} {a2 : Int32} {h hE : AH} {v : Int32} (hf : f_X10_fence a0 a1 a2 h = some (v, hE)) : ∀ g : GT, CM g (147) yX10_fence cX10_fence 8 (some .int) h [.inr (.inr (a0)), .inl (a1), .inl (a2)] hE (some (.inl (v))) :=
  CM.ofJ (by decide) (by show _ ≤ 8; exact Nat.le_of_ble_eq_true rfl) (q_X10_fence_0 hf)
set_option maxHeartbeats 4000000 in
set_option maxRecDepth 100000 in
theorem t_X10_fence_0 {a0 : Nat} {a1 : Int32} {a2 : Int32} {h hE : AH} {E : Nat} {x1 : Unit} (e1 : ok_v h a0 10 = some x1) (hx : ∀ g : GT, CT g 10 yX10_programAt cX10_programAt 3 (some (.object "LitmusHouse$Program")) h [.inr (.inr (a0)), .inl (a1)] hE E) : ∀ g : GT, CT g 12 yX10_fence cX10_fence 8 (some .int) h [.inr (.inr (a0)), .inl (a1), .inl (a2)] hE E := by
  intro g
  have mE := (hx g).1
  refine CT.of (by decide) (by show _ ≤ 8; exact Nat.le_of_ble_eq_true rfl) (by omega) (fun X ok nmx lev th => ?_)
  refine tj_aload_n ok 0 dX10_fence_0 rfl rfl ?_
  refine tj_iload_n ok 1 dX10_fence_1 rfl rfl ?_
  exact tj_xV (rest := ([] : List TV).map (vl g)) (as := [.inl (a1)]) ok lev (by omega) fcX10.1 (by decide) rfl (of_if e1).1 (hx g) th kn_X10_programAt wm_1168 wm_1169 wm_1170 (rs_ok (Nat.le_of_ble_eq_true rfl)) rfl dX10_fence_2
/-! ===== LitmusHouse.kind(II)I ===== -/
def b_X10_kind_16  (h : AH) : Option (Int32 × AH) :=
  some ((-1 : Int32), h)
set_option maxHeartbeats 4000000 in
set_option maxRecDepth 100000 in
theorem q_X10_kind_16 {h hE : AH} {v : Int32} (hf : b_X10_kind_16  h = some (v, hE)) : JD cX10_kind 4 RX10 "kind" (some .int) (4) 16 [] [] h hE (some (.inl (v))) := by
  unfold b_X10_kind_16 at hf
  obtain ⟨hv, hh⟩ := Prod.mk.inj (Option.some.inj hf)
  subst hv
  subst hh
  have mE : hp_n h ≤ hp_n h ∧ hp_s h ≤ hp_s h := ⟨Nat.le_refl _, Nat.le_refl _⟩
  refine ⟨by omega, fun X g K ok nmx lev hK en => ?_⟩
  refine tj_iconst (v := -1) ok dX10_kind_16 (by decide) ?_
  exact tj_ireturn ok en dX10_kind_17
def b_X10_kind_18 (a2 : Int32) (a3 : Nat) (h : AH) : Option (Int32 × AH) :=
  (g_r h a3 5 1).bind fun x1 => (l_i h x1 a2).bind fun x2 => some (x2, h)
set_option maxHeartbeats 4000000 in
set_option maxRecDepth 100000 in
theorem q_X10_kind_18 {a2 : Int32} {a3 : Nat} {h hE : AH} {v : Int32} (hf : b_X10_kind_18 a2 a3 h = some (v, hE)) : JD cX10_kind 4 RX10 "kind" (some .int) (4) 18 [(2, .inl (a2)), (3, .inr (.inr (a3)))] [] h hE (some (.inl (v))) := by
  unfold b_X10_kind_18 at hf
  obtain ⟨x1, e1, hf⟩ := bnd hf
  obtain ⟨x2, e2, hf⟩ := bnd hf
  obtain ⟨hv, hh⟩ := Prod.mk.inj (Option.some.inj hf)
  subst hv
  subst hh
  have mE : hp_n h ≤ hp_n h ∧ hp_s h ≤ hp_s h := ⟨Nat.le_refl _, Nat.le_refl _⟩
  refine ⟨by omega, fun X g K ok nmx lev hK en => ?_⟩
  refine tj_aload_n ok 1 dX10_kind_18 rfl rfl ?_
  refine tj_getR (k := 1) ok fcX5 (by decide) wm_1194 rfl (Or.inr ⟨_, rfl⟩) dX10_kind_19 e1 ?_
  refine tj_iload_n ok 0 dX10_kind_22 rfl rfl ?_
  refine tj_iaload ok dX10_kind_23 e2 ?_
  exact tj_ireturn ok en dX10_kind_24
def b_X10_kind_10 (a2 : Int32) (a3 : Nat) (h : AH) : Option (Int32 × AH) :=
  if a2 < (6 : Int32) then b_X10_kind_18 a2 a3 h else b_X10_kind_16 h
set_option maxHeartbeats 4000000 in
set_option maxRecDepth 100000 in
theorem q_X10_kind_10 {a2 : Int32} {a3 : Nat} {h hE : AH} {v : Int32} (hf : b_X10_kind_10 a2 a3 h = some (v, hE)) : JD cX10_kind 4 RX10 "kind" (some .int) (4) 10 [(2, .inl (a2)), (3, .inr (.inr (a3)))] [] h hE (some (.inl (v))) := by
  unfold b_X10_kind_10 at hf
  have mE : hp_n h ≤ hp_n hE ∧ hp_s h ≤ hp_s hE := by
    by_cases hc : a2 < (6 : Int32)
    · rw [if_pos hc] at hf; exact (q_X10_kind_18 hf).1
    · rw [if_neg hc] at hf; exact (q_X10_kind_16 hf).1
  refine ⟨by omega, fun X g K ok nmx lev hK en => ?_⟩
  refine tj_iload_n ok 0 dX10_kind_10 rfl rfl ?_
  refine tj_bipush (v := 6) ok dX10_kind_11 (by decide) ?_
  refine tj_icmp_lt (tgt := 18) ok dX10_kind_13 (by decide) (fun hc => ?_) (fun hc => ?_)
  · rw [if_pos hc] at hf
    exact (q_X10_kind_18 hf).2 X g K ok nmx lev hK en
  · rw [if_neg hc] at hf
    refine tj_sub (lv' := []) [] rfl ?_
    exact (q_X10_kind_16 hf).2 X g K ok nmx lev hK en
def b_X10_kind_0 (a0 : Nat) (a1 : Int32) (a2 : Int32) (h : AH) : Option (Int32 × AH) :=
  (ok_v h a0 10).bind fun x1 => (f_X10_programAt a0 a1 h).bind fun q2 => if a2 < 0 then b_X10_kind_16 q2.2 else b_X10_kind_10 a2 q2.1 q2.2
set_option maxHeartbeats 4000000 in
set_option maxRecDepth 100000 in
theorem q_X10_kind_0 {a0 : Nat} {a1 : Int32} {a2 : Int32} {h hE : AH} {v : Int32} (hf : b_X10_kind_0 a0 a1 a2 h = some (v, hE)) : JD cX10_kind 4 RX10 "kind" (some .int) (4) 0 [(0, .inr (.inr (a0))), (1, .inl (a1)), (2, .inl (a2))] [] h hE (some (.inl (v))) := by
  unfold b_X10_kind_0 at hf
  obtain ⟨x1, e1, hf⟩ := bnd hf
  obtain ⟨⟨x2, h2⟩, e2, hf⟩ := bnd hf
  try dsimp only at hf
  have k2 := c_X10_programAt e2
  have m2 := (k2 default_g).1
  have mE : hp_n h2 ≤ hp_n hE ∧ hp_s h2 ≤ hp_s hE := by
    by_cases hc : a2 < 0
    · rw [if_pos hc] at hf; exact (q_X10_kind_16 hf).1
    · rw [if_neg hc] at hf; exact (q_X10_kind_10 hf).1
  refine ⟨by omega, fun X g K ok nmx lev hK en => ?_⟩
  refine tj_aload_n ok 0 dX10_kind_0 rfl rfl ?_
  refine tj_iload_n ok 1 dX10_kind_1 rfl rfl ?_
  refine tj_callV (rest := ([] : List TV).map (vl g)) (as := [.inl (a1)]) ok lev (by omega) fcX10.1 (by decide) rfl (of_if e1).1 (k2 g) (CaX.of en (by omega)) kn_X10_programAt wm_1168 wm_1169 wm_1170 (rs_ok (Nat.le_of_ble_eq_true rfl)) rfl rfl dX10_kind_2 ?_
  refine tj_astore_n (lv' := [(0, .inr (.inr (a0))), (1, .inl (a1)), (2, .inl (a2)), (3, .inr (.inr (x2)))]) ok dX10_kind_5 rfl (by decide) rfl ?_
  refine tj_iload_n ok 2 dX10_kind_6 rfl rfl ?_
  refine tj_if_lt (tgt := 16) ok dX10_kind_7 (by decide) (fun hc => ?_) (fun hc => ?_)
  · rw [if_pos hc] at hf
    refine tj_sub (lv' := []) [] rfl ?_
    exact (q_X10_kind_16 hf).2 X g K ok nmx lev hK en
  · rw [if_neg hc] at hf
    refine tj_sub (lv' := [(2, .inl (a2)), (3, .inr (.inr (x2)))]) [2, 3] rfl ?_
    exact (q_X10_kind_10 hf).2 X g K ok nmx lev hK en
def f_X10_kind (a0 : Nat) (a1 : Int32) (a2 : Int32) (h : AH) : Option (Int32 × AH) := b_X10_kind_0  a0 a1 a2 h
theorem c_X10_kind {a0 : Nat} {a1 : Int32} {a2 : Int32} {h hE : AH} {v : Int32} (hf : f_X10_kind a0 a1 a2 h = some (v, hE)) : ∀ g : GT, CM g (4) yX10_kind cX10_kind 4 (some .int) h [.inr (.inr (a0)), .inl (a1), .inl (a2)] hE (some (.inl (v))) :=
  CM.ofJ (by decide) (by show _ ≤ 4; exact Nat.le_of_ble_eq_true rfl) (q_X10_kind_0 hf)
set_option maxHeartbeats 4000000 in
set_option maxRecDepth 100000 in
theorem t_X10_kind_0 {a0 : Nat} {a1 : Int32} {a2 : Int32} {h hE : AH} {E : Nat} {x1 : Unit} (e1 : ok_v h a0 10 = some x1) (hx : ∀ g : GT, CT g 10 yX10_programAt cX10_programAt 3 (some (.object "LitmusHouse$Program")) h [.inr (.inr (a0)), .inl (a1)] hE E) : ∀ g : GT, CT g 12 yX10_kind cX10_kind 4 (some .int) h [.inr (.inr (a0)), .inl (a1), .inl (a2)] hE E := by
  intro g
  have mE := (hx g).1
  refine CT.of (by decide) (by show _ ≤ 4; exact Nat.le_of_ble_eq_true rfl) (by omega) (fun X ok nmx lev th => ?_)
  refine tj_aload_n ok 0 dX10_kind_0 rfl rfl ?_
  refine tj_iload_n ok 1 dX10_kind_1 rfl rfl ?_
  exact tj_xV (rest := ([] : List TV).map (vl g)) (as := [.inl (a1)]) ok lev (by omega) fcX10.1 (by decide) rfl (of_if e1).1 (hx g) th kn_X10_programAt wm_1168 wm_1169 wm_1170 (rs_ok (Nat.le_of_ble_eq_true rfl)) rfl dX10_kind_2
/-! ===== LitmusHouse.load(I)I ===== -/
def b_X10_load_56 (a0 : Nat) (a1 : Int32) (a2 : Nat) (h : AH) : Option (Int32 × AH) :=
  (g_r h a0 10 1).bind fun x1 => (s_r h x1 a1 a2).bind fun h2 => (g_r h2 a2 5 0).bind fun x3 => (g_i h2 x3 0 12).bind fun x4 => some (x4, h2)
set_option maxHeartbeats 4000000 in
set_option maxRecDepth 100000 in
theorem q_X10_load_56 {a0 : Nat} {a1 : Int32} {a2 : Nat} {h hE : AH} {v : Int32} (hf : b_X10_load_56 a0 a1 a2 h = some (v, hE)) : JD cX10_load 3 RX10 "load" (some .int) (170) 56 [(0, .inr (.inr (a0))), (1, .inl (a1)), (2, .inr (.inr (a2)))] [] h hE (some (.inl (v))) := by
  unfold b_X10_load_56 at hf
  obtain ⟨x1, e1, hf⟩ := bnd hf
  obtain ⟨h2, e2, hf⟩ := bnd hf
  have m2 := nn_sr e2
  obtain ⟨x3, e3, hf⟩ := bnd hf
  obtain ⟨x4, e4, hf⟩ := bnd hf
  obtain ⟨hv, hh⟩ := Prod.mk.inj (Option.some.inj hf)
  subst hv
  subst hh
  have mE : hp_n h2 ≤ hp_n h2 ∧ hp_s h2 ≤ hp_s h2 := ⟨Nat.le_refl _, Nat.le_refl _⟩
  refine ⟨by omega, fun X g K ok nmx lev hK en => ?_⟩
  refine tj_aload_n ok 0 dX10_load_56 rfl rfl ?_
  refine tj_getR (k := 1) ok fcX10 (by decide) wm_199 rfl (Or.inr ⟨_, rfl⟩) dX10_load_57 e1 ?_
  refine tj_iload_n ok 1 dX10_load_60 rfl rfl ?_
  refine tj_aload_n ok 2 dX10_load_61 rfl rfl ?_
  refine tj_aastore ok dX10_load_62 e2 ?_
  refine tj_aload_n ok 2 dX10_load_63 rfl rfl ?_
  refine tj_getR (k := 0) ok fcX5 (by decide) wm_1171 rfl (Or.inl ⟨_, rfl⟩) dX10_load_64 e3 ?_
  refine tj_getI (k := 12) ok fcX0 (by decide) wm_1167 rfl (Or.inl rfl) dX10_load_67 e4 ?_
  exact tj_ireturn ok en dX10_load_70
def b_X10_load_54  (h : AH) : Option (Int32 × AH) :=
  some ((-1 : Int32), h)
set_option maxHeartbeats 4000000 in
set_option maxRecDepth 100000 in
theorem q_X10_load_54 {h hE : AH} {v : Int32} (hf : b_X10_load_54  h = some (v, hE)) : JD cX10_load 3 RX10 "load" (some .int) (170) 54 [] [] h hE (some (.inl (v))) := by
  unfold b_X10_load_54 at hf
  obtain ⟨hv, hh⟩ := Prod.mk.inj (Option.some.inj hf)
  subst hv
  subst hh
  have mE : hp_n h ≤ hp_n h ∧ hp_s h ≤ hp_s h := ⟨Nat.le_refl _, Nat.le_refl _⟩
  refine ⟨by omega, fun X g K ok nmx lev hK en => ?_⟩
  refine tj_iconst (v := -1) ok dX10_load_54 (by decide) ?_
  exact tj_ireturn ok en dX10_load_55
def b_X10_load_0 (a0 : Nat) (a1 : Int32) (h : AH) : Option (Int32 × AH) :=
  (f_X10_demandPlace a1 h).bind fun h1 => (g_r h1 a0 10 3).bind fun x2 => (g_r h1 a0 10 0).bind fun x3 => (g_i h1 a0 10 7).bind fun x4 => (ok_v h1 x2 6).bind fun x5 => (f_X6_read x2 x3 x4 h1).bind fun q6 => (p_i q6.2 a0 10 7 (0 : Int32)).bind fun h7 => (g_r h7 a0 10 3).bind fun x8 => (g_i h7 x8 6 0).bind fun x9 => (p_i h7 a0 10 8 x9).bind fun h10 => (g_r h10 a0 10 3).bind fun x11 => (g_i h10 x11 6 1).bind fun x12 => (p_i h10 a0 10 9 x12).bind fun h13 => (g_i h13 a0 10 8).bind fun x14 => if x14 = 0 then b_X10_load_56 a0 a1 q6.1 h13 else b_X10_load_54 h13
set_option maxHeartbeats 4000000 in
set_option maxRecDepth 100000 in
theorem q_X10_load_0 {a0 : Nat} {a1 : Int32} {h hE : AH} {v : Int32} (hf : b_X10_load_0 a0 a1 h = some (v, hE)) : JD cX10_load 3 RX10 "load" (some .int) (170) 0 [(0, .inr (.inr (a0))), (1, .inl (a1))] [] h hE (some (.inl (v))) := by
  unfold b_X10_load_0 at hf
  obtain ⟨h1, e1, hf⟩ := bnd hf
  have k1 := c_X10_demandPlace e1
  have m1 := (k1 default_g).1
  obtain ⟨x2, e2, hf⟩ := bnd hf
  obtain ⟨x3, e3, hf⟩ := bnd hf
  obtain ⟨x4, e4, hf⟩ := bnd hf
  obtain ⟨x5, e5, hf⟩ := bnd hf
  obtain ⟨⟨x6, h6⟩, e6, hf⟩ := bnd hf
  try dsimp only at hf
  have k6 := c_X6_read e6
  have m6 := (k6 default_g).1
  obtain ⟨h7, e7, hf⟩ := bnd hf
  have m7 := nn_pi e7
  obtain ⟨x8, e8, hf⟩ := bnd hf
  obtain ⟨x9, e9, hf⟩ := bnd hf
  obtain ⟨h10, e10, hf⟩ := bnd hf
  have m10 := nn_pi e10
  obtain ⟨x11, e11, hf⟩ := bnd hf
  obtain ⟨x12, e12, hf⟩ := bnd hf
  obtain ⟨h13, e13, hf⟩ := bnd hf
  have m13 := nn_pi e13
  obtain ⟨x14, e14, hf⟩ := bnd hf
  have mE : hp_n h13 ≤ hp_n hE ∧ hp_s h13 ≤ hp_s hE := by
    by_cases hc : x14 = 0
    · rw [if_pos hc] at hf; exact (q_X10_load_56 hf).1
    · rw [if_neg hc] at hf; exact (q_X10_load_54 hf).1
  refine ⟨by omega, fun X g K ok nmx lev hK en => ?_⟩
  refine tj_iload_n ok 1 dX10_load_0 rfl rfl ?_
  refine tj_callS (rest := ([] : List TV).map (vl g)) (as := [.inl (a1)]) ok lev (by omega) (k1 g) (CaX.of en (by omega)) kn_X10_demandPlace wm_1159 wm_1160 (rs_ok (Nat.le_of_ble_eq_true rfl)) rfl rfl dX10_load_1 ?_
  refine tj_aload_n ok 0 dX10_load_4 rfl rfl ?_
  refine tj_getR (k := 3) ok fcX10 (by decide) wm_204 rfl (Or.inl ⟨_, rfl⟩) dX10_load_5 e2 ?_
  refine tj_aload_n ok 0 dX10_load_8 rfl rfl ?_
  refine tj_getR (k := 0) ok fcX10 (by decide) wm_96 rfl (Or.inr ⟨_, rfl⟩) dX10_load_9 e3 ?_
  refine tj_aload_n ok 0 dX10_load_12 rfl rfl ?_
  refine tj_getI (k := 7) ok fcX10 (by decide) wm_91 rfl (Or.inl rfl) dX10_load_13 e4 ?_
  refine tj_callV (rest := ([] : List TV).map (vl g)) (as := [.inr (.inr (x3)), .inl (x4)]) ok lev (by omega) fcX6.1 (by decide) rfl (of_if e5).1 (k6 g) (CaX.of en (by omega)) kn_X6_read wm_1196 wm_1197 wm_1198 (rs_ok (Nat.le_of_ble_eq_true rfl)) rfl rfl dX10_load_16 ?_
  refine tj_astore_n (lv' := [(0, .inr (.inr (a0))), (1, .inl (a1)), (2, .inr (.inr (x6)))]) ok dX10_load_19 rfl (by decide) rfl ?_
  refine tj_aload_n ok 0 dX10_load_20 rfl rfl ?_
  refine tj_iconst (v := 0) ok dX10_load_21 (by decide) ?_
  refine tj_putI (k := 7) ok fcX10 (by decide) wm_91 rfl (Or.inl rfl) rfl dX10_load_22 e7 ?_
  refine tj_aload_n ok 0 dX10_load_25 rfl rfl ?_
  refine tj_aload_n ok 0 dX10_load_26 rfl rfl ?_
  refine tj_getR (k := 3) ok fcX10 (by decide) wm_204 rfl (Or.inl ⟨_, rfl⟩) dX10_load_27 e8 ?_
  refine tj_getI (k := 0) ok fcX6 (by decide) wm_1199 rfl (Or.inl rfl) dX10_load_30 e9 ?_
  refine tj_putI (k := 8) ok fcX10 (by decide) wm_93 rfl (Or.inl rfl) rfl dX10_load_33 e10 ?_
  refine tj_aload_n ok 0 dX10_load_36 rfl rfl ?_
  refine tj_aload_n ok 0 dX10_load_37 rfl rfl ?_
  refine tj_getR (k := 3) ok fcX10 (by decide) wm_204 rfl (Or.inl ⟨_, rfl⟩) dX10_load_38 e11 ?_
  refine tj_getI (k := 1) ok fcX6 (by decide) wm_1200 rfl (Or.inl rfl) dX10_load_41 e12 ?_
  refine tj_putI (k := 9) ok fcX10 (by decide) wm_94 rfl (Or.inl rfl) rfl dX10_load_44 e13 ?_
  refine tj_aload_n ok 0 dX10_load_47 rfl rfl ?_
  refine tj_getI (k := 8) ok fcX10 (by decide) wm_93 rfl (Or.inl rfl) dX10_load_48 e14 ?_
  refine tj_if_eq (tgt := 56) ok dX10_load_51 (by decide) (fun hc => ?_) (fun hc => ?_)
  · rw [if_pos hc] at hf
    exact (q_X10_load_56 hf).2 X g K ok nmx lev hK en
  · rw [if_neg hc] at hf
    refine tj_sub (lv' := []) [] rfl ?_
    exact (q_X10_load_54 hf).2 X g K ok nmx lev hK en
def f_X10_load (a0 : Nat) (a1 : Int32) (h : AH) : Option (Int32 × AH) := b_X10_load_0  a0 a1 h
theorem c_X10_load {a0 : Nat} {a1 : Int32} {h hE : AH} {v : Int32} (hf : f_X10_load a0 a1 h = some (v, hE)) : ∀ g : GT, CM g (170) yX10_load cX10_load 3 (some .int) h [.inr (.inr (a0)), .inl (a1)] hE (some (.inl (v))) :=
  CM.ofJ (by decide) (by show _ ≤ 3; exact Nat.le_of_ble_eq_true rfl) (q_X10_load_0 hf)
set_option maxHeartbeats 4000000 in
set_option maxRecDepth 100000 in
theorem t_X10_load_0 {a0 : Nat} {a1 : Int32} {h hE : AH} {E : Nat} (hx : ∀ g : GT, CT g 8 yX10_demandPlace cX10_demandPlace 1 none h [.inl (a1)] hE E) : ∀ g : GT, CT g 12 yX10_load cX10_load 3 (some .int) h [.inr (.inr (a0)), .inl (a1)] hE E := by
  intro g
  have mE := (hx g).1
  refine CT.of (by decide) (by show _ ≤ 3; exact Nat.le_of_ble_eq_true rfl) (by omega) (fun X ok nmx lev th => ?_)
  refine tj_iload_n ok 1 dX10_load_0 rfl rfl ?_
  exact tj_xS (rest := ([] : List TV).map (vl g)) (as := [.inl (a1)]) ok lev (by omega) (hx g) th kn_X10_demandPlace wm_1159 wm_1160 (rs_ok (Nat.le_of_ble_eq_true rfl)) rfl dX10_load_1
/-! ===== LitmusHouse.look(II)I ===== -/
def b_X10_look_56 (a4 : Nat) (h : AH) : Option (Int32 × AH) :=
  (g_i h a4 0 11).bind fun x1 => some (x1, h)
set_option maxHeartbeats 4000000 in
set_option maxRecDepth 100000 in
theorem q_X10_look_56 {a4 : Nat} {h hE : AH} {v : Int32} (hf : b_X10_look_56 a4 h = some (v, hE)) : JD cX10_look 5 RX10 "look" (some .int) (4) 56 [(4, .inr (.inr (a4)))] [] h hE (some (.inl (v))) := by
  unfold b_X10_look_56 at hf
  obtain ⟨x1, e1, hf⟩ := bnd hf
  obtain ⟨hv, hh⟩ := Prod.mk.inj (Option.some.inj hf)
  subst hv
  subst hh
  have mE : hp_n h ≤ hp_n h ∧ hp_s h ≤ hp_s h := ⟨Nat.le_refl _, Nat.le_refl _⟩
  refine ⟨by omega, fun X g K ok nmx lev hK en => ?_⟩
  refine tj_aload ok 0 dX10_look_56 rfl ?_
  refine tj_getI (k := 11) ok fcX0 (by decide) wm_1202 rfl (Or.inl rfl) dX10_look_58 e1 ?_
  exact tj_ireturn ok en dX10_look_61
def b_X10_look_62 (a4 : Nat) (h : AH) : Option (Int32 × AH) :=
  (g_i h a4 0 12).bind fun x1 => some (x1, h)
set_option maxHeartbeats 4000000 in
set_option maxRecDepth 100000 in
theorem q_X10_look_62 {a4 : Nat} {h hE : AH} {v : Int32} (hf : b_X10_look_62 a4 h = some (v, hE)) : JD cX10_look 5 RX10 "look" (some .int) (4) 62 [(4, .inr (.inr (a4)))] [] h hE (some (.inl (v))) := by
  unfold b_X10_look_62 at hf
  obtain ⟨x1, e1, hf⟩ := bnd hf
  obtain ⟨hv, hh⟩ := Prod.mk.inj (Option.some.inj hf)
  subst hv
  subst hh
  have mE : hp_n h ≤ hp_n h ∧ hp_s h ≤ hp_s h := ⟨Nat.le_refl _, Nat.le_refl _⟩
  refine ⟨by omega, fun X g K ok nmx lev hK en => ?_⟩
  refine tj_aload ok 0 dX10_look_62 rfl ?_
  refine tj_getI (k := 12) ok fcX0 (by decide) wm_1167 rfl (Or.inl rfl) dX10_look_64 e1 ?_
  exact tj_ireturn ok en dX10_look_67
def b_X10_look_68 (a3 : Nat) (h : AH) : Option (Int32 × AH) :=
  (ok_v h a3 5).bind fun x1 => (f_X5_declaredCells a3 h).bind fun q2 => some (q2.1, q2.2)
set_option maxHeartbeats 4000000 in
set_option maxRecDepth 100000 in
theorem q_X10_look_68 {a3 : Nat} {h hE : AH} {v : Int32} (hf : b_X10_look_68 a3 h = some (v, hE)) : JD cX10_look 5 RX10 "look" (some .int) (4) 68 [(3, .inr (.inr (a3)))] [] h hE (some (.inl (v))) := by
  unfold b_X10_look_68 at hf
  obtain ⟨x1, e1, hf⟩ := bnd hf
  obtain ⟨⟨x2, h2⟩, e2, hf⟩ := bnd hf
  try dsimp only at hf
  have k2 := c_X5_declaredCells e2
  have m2 := (k2 default_g).1
  obtain ⟨hv, hh⟩ := Prod.mk.inj (Option.some.inj hf)
  subst hv
  subst hh
  have mE : hp_n h2 ≤ hp_n h2 ∧ hp_s h2 ≤ hp_s h2 := ⟨Nat.le_refl _, Nat.le_refl _⟩
  refine ⟨by omega, fun X g K ok nmx lev hK en => ?_⟩
  refine tj_aload_n ok 0 dX10_look_68 rfl rfl ?_
  refine tj_callV (rest := ([] : List TV).map (vl g)) (as := []) ok lev (by omega) fcX5.1 (by decide) rfl (of_if e1).1 (k2 g) (CaX.of en (by omega)) kn_X5_declaredCells wm_1203 wm_1137 wm_1138 (rs_ok (Nat.le_of_ble_eq_true rfl)) rfl rfl dX10_look_69 ?_
  exact tj_ireturn ok en dX10_look_72
def b_X10_look_73 (a4 : Nat) (h : AH) : Option (Int32 × AH) :=
  (g_i h a4 0 14).bind fun x1 => (f_J6_bitCount_0f7a4 x1 h).bind fun q2 => some (q2.1, q2.2)
set_option maxHeartbeats 4000000 in
set_option maxRecDepth 100000 in
theorem q_X10_look_73 {a4 : Nat} {h hE : AH} {v : Int32} (hf : b_X10_look_73 a4 h = some (v, hE)) : JD cX10_look 5 RX10 "look" (some .int) (4) 73 [(4, .inr (.inr (a4)))] [] h hE (some (.inl (v))) := by
  unfold b_X10_look_73 at hf
  obtain ⟨x1, e1, hf⟩ := bnd hf
  obtain ⟨⟨x2, h2⟩, e2, hf⟩ := bnd hf
  try dsimp only at hf
  have k2 := c_J6_bitCount_0f7a4 e2
  have m2 := (k2 default_g).1
  obtain ⟨hv, hh⟩ := Prod.mk.inj (Option.some.inj hf)
  subst hv
  subst hh
  have mE : hp_n h2 ≤ hp_n h2 ∧ hp_s h2 ≤ hp_s h2 := ⟨Nat.le_refl _, Nat.le_refl _⟩
  refine ⟨by omega, fun X g K ok nmx lev hK en => ?_⟩
  refine tj_aload ok 0 dX10_look_73 rfl ?_
  refine tj_getI (k := 14) ok fcX0 (by decide) wm_1204 rfl (Or.inl rfl) dX10_look_75 e1 ?_
  refine tj_callS (rest := ([] : List TV).map (vl g)) (as := [.inl (x1)]) ok lev (by omega) (k2 g) (CaX.of en (by omega)) kn_J6_bitCount_0f7a4 wm_1188 wm_973 (rs_ok (Nat.le_of_ble_eq_true rfl)) rfl rfl dX10_look_78 ?_
  exact tj_ireturn ok en dX10_look_81
def b_X10_look_82 (a4 : Nat) (h : AH) : Option (Int32 × AH) :=
  (g_i h a4 0 15).bind fun x1 => (f_J6_bitCount_0f7a4 x1 h).bind fun q2 => some (q2.1, q2.2)
set_option maxHeartbeats 4000000 in
set_option maxRecDepth 100000 in
theorem q_X10_look_82 {a4 : Nat} {h hE : AH} {v : Int32} (hf : b_X10_look_82 a4 h = some (v, hE)) : JD cX10_look 5 RX10 "look" (some .int) (4) 82 [(4, .inr (.inr (a4)))] [] h hE (some (.inl (v))) := by
  unfold b_X10_look_82 at hf
  obtain ⟨x1, e1, hf⟩ := bnd hf
  obtain ⟨⟨x2, h2⟩, e2, hf⟩ := bnd hf
  try dsimp only at hf
  have k2 := c_J6_bitCount_0f7a4 e2
  have m2 := (k2 default_g).1
  obtain ⟨hv, hh⟩ := Prod.mk.inj (Option.some.inj hf)
  subst hv
  subst hh
  have mE : hp_n h2 ≤ hp_n h2 ∧ hp_s h2 ≤ hp_s h2 := ⟨Nat.le_refl _, Nat.le_refl _⟩
  refine ⟨by omega, fun X g K ok nmx lev hK en => ?_⟩
  refine tj_aload ok 0 dX10_look_82 rfl ?_
  refine tj_getI (k := 15) ok fcX0 (by decide) wm_1205 rfl (Or.inl rfl) dX10_look_84 e1 ?_
  refine tj_callS (rest := ([] : List TV).map (vl g)) (as := [.inl (x1)]) ok lev (by omega) (k2 g) (CaX.of en (by omega)) kn_J6_bitCount_0f7a4 wm_1188 wm_973 (rs_ok (Nat.le_of_ble_eq_true rfl)) rfl rfl dX10_look_87 ?_
  exact tj_ireturn ok en dX10_look_90
def b_X10_look_91 (a4 : Nat) (h : AH) : Option (Int32 × AH) :=
  (g_i h a4 0 13).bind fun x1 => some (x1, h)
set_option maxHeartbeats 4000000 in
set_option maxRecDepth 100000 in
theorem q_X10_look_91 {a4 : Nat} {h hE : AH} {v : Int32} (hf : b_X10_look_91 a4 h = some (v, hE)) : JD cX10_look 5 RX10 "look" (some .int) (4) 91 [(4, .inr (.inr (a4)))] [] h hE (some (.inl (v))) := by
  unfold b_X10_look_91 at hf
  obtain ⟨x1, e1, hf⟩ := bnd hf
  obtain ⟨hv, hh⟩ := Prod.mk.inj (Option.some.inj hf)
  subst hv
  subst hh
  have mE : hp_n h ≤ hp_n h ∧ hp_s h ≤ hp_s h := ⟨Nat.le_refl _, Nat.le_refl _⟩
  refine ⟨by omega, fun X g K ok nmx lev hK en => ?_⟩
  refine tj_aload ok 0 dX10_look_91 rfl ?_
  refine tj_getI (k := 13) ok fcX0 (by decide) wm_1206 rfl (Or.inl rfl) dX10_look_93 e1 ?_
  exact tj_ireturn ok en dX10_look_96
def b_X10_look_97 (a4 : Nat) (h : AH) : Option (Int32 × AH) :=
  (g_i h a4 0 16).bind fun x1 => some (x1, h)
set_option maxHeartbeats 4000000 in
set_option maxRecDepth 100000 in
theorem q_X10_look_97 {a4 : Nat} {h hE : AH} {v : Int32} (hf : b_X10_look_97 a4 h = some (v, hE)) : JD cX10_look 5 RX10 "look" (some .int) (4) 97 [(4, .inr (.inr (a4)))] [] h hE (some (.inl (v))) := by
  unfold b_X10_look_97 at hf
  obtain ⟨x1, e1, hf⟩ := bnd hf
  obtain ⟨hv, hh⟩ := Prod.mk.inj (Option.some.inj hf)
  subst hv
  subst hh
  have mE : hp_n h ≤ hp_n h ∧ hp_s h ≤ hp_s h := ⟨Nat.le_refl _, Nat.le_refl _⟩
  refine ⟨by omega, fun X g K ok nmx lev hK en => ?_⟩
  refine tj_aload ok 0 dX10_look_97 rfl ?_
  refine tj_getI (k := 16) ok fcX0 (by decide) wm_1207 rfl (Or.inl rfl) dX10_look_99 e1 ?_
  exact tj_ireturn ok en dX10_look_102
def b_X10_look_103  (h : AH) : Option (Int32 × AH) :=
  some ((-1 : Int32), h)
set_option maxHeartbeats 4000000 in
set_option maxRecDepth 100000 in
theorem q_X10_look_103 {h hE : AH} {v : Int32} (hf : b_X10_look_103  h = some (v, hE)) : JD cX10_look 5 RX10 "look" (some .int) (4) 103 [] [] h hE (some (.inl (v))) := by
  unfold b_X10_look_103 at hf
  obtain ⟨hv, hh⟩ := Prod.mk.inj (Option.some.inj hf)
  subst hv
  subst hh
  have mE : hp_n h ≤ hp_n h ∧ hp_s h ≤ hp_s h := ⟨Nat.le_refl _, Nat.le_refl _⟩
  refine ⟨by omega, fun X g K ok nmx lev hK en => ?_⟩
  refine tj_iconst (v := -1) ok dX10_look_103 (by decide) ?_
  exact tj_ireturn ok en dX10_look_104
def b_X10_look_0 (a0 : Nat) (a1 : Int32) (a2 : Int32) (h : AH) : Option (Int32 × AH) :=
  (ok_v h a0 10).bind fun x1 => (f_X10_programAt a0 a1 h).bind fun q2 => (g_r q2.2 q2.1 5 0).bind fun x3 => if a2 = 0 then b_X10_look_56 x3 q2.2 else if a2 = 1 then b_X10_look_62 x3 q2.2 else if a2 = 2 then b_X10_look_68 q2.1 q2.2 else if a2 = 3 then b_X10_look_73 x3 q2.2 else if a2 = 4 then b_X10_look_82 x3 q2.2 else if a2 = 5 then b_X10_look_91 x3 q2.2 else if a2 = 6 then b_X10_look_97 x3 q2.2 else b_X10_look_103 q2.2
set_option maxHeartbeats 4000000 in
set_option maxRecDepth 100000 in
theorem q_X10_look_0 {a0 : Nat} {a1 : Int32} {a2 : Int32} {h hE : AH} {v : Int32} (hf : b_X10_look_0 a0 a1 a2 h = some (v, hE)) : JD cX10_look 5 RX10 "look" (some .int) (4) 0 [(0, .inr (.inr (a0))), (1, .inl (a1)), (2, .inl (a2))] [] h hE (some (.inl (v))) := by
  unfold b_X10_look_0 at hf
  obtain ⟨x1, e1, hf⟩ := bnd hf
  obtain ⟨⟨x2, h2⟩, e2, hf⟩ := bnd hf
  try dsimp only at hf
  have k2 := c_X10_programAt e2
  have m2 := (k2 default_g).1
  obtain ⟨x3, e3, hf⟩ := bnd hf
  have mE : hp_n h2 ≤ hp_n hE ∧ hp_s h2 ≤ hp_s hE := by
    by_cases hc0 : a2 = 0
    · rw [if_pos hc0] at hf; exact (q_X10_look_56 hf).1
    rw [if_neg hc0] at hf
    by_cases hc1 : a2 = 1
    · rw [if_pos hc1] at hf; exact (q_X10_look_62 hf).1
    rw [if_neg hc1] at hf
    by_cases hc2 : a2 = 2
    · rw [if_pos hc2] at hf; exact (q_X10_look_68 hf).1
    rw [if_neg hc2] at hf
    by_cases hc3 : a2 = 3
    · rw [if_pos hc3] at hf; exact (q_X10_look_73 hf).1
    rw [if_neg hc3] at hf
    by_cases hc4 : a2 = 4
    · rw [if_pos hc4] at hf; exact (q_X10_look_82 hf).1
    rw [if_neg hc4] at hf
    by_cases hc5 : a2 = 5
    · rw [if_pos hc5] at hf; exact (q_X10_look_91 hf).1
    rw [if_neg hc5] at hf
    by_cases hc6 : a2 = 6
    · rw [if_pos hc6] at hf; exact (q_X10_look_97 hf).1
    rw [if_neg hc6] at hf
    exact (q_X10_look_103 hf).1
  refine ⟨by omega, fun X g K ok nmx lev hK en => ?_⟩
  refine tj_aload_n ok 0 dX10_look_0 rfl rfl ?_
  refine tj_iload_n ok 1 dX10_look_1 rfl rfl ?_
  refine tj_callV (rest := ([] : List TV).map (vl g)) (as := [.inl (a1)]) ok lev (by omega) fcX10.1 (by decide) rfl (of_if e1).1 (k2 g) (CaX.of en (by omega)) kn_X10_programAt wm_1168 wm_1169 wm_1170 (rs_ok (Nat.le_of_ble_eq_true rfl)) rfl rfl dX10_look_2 ?_
  refine tj_astore_n (lv' := [(0, .inr (.inr (a0))), (1, .inl (a1)), (2, .inl (a2)), (3, .inr (.inr (x2)))]) ok dX10_look_5 rfl (by decide) rfl ?_
  refine tj_aload_n ok 3 dX10_look_6 rfl rfl ?_
  refine tj_getR (k := 0) ok fcX5 (by decide) wm_1171 rfl (Or.inl ⟨_, rfl⟩) dX10_look_7 e3 ?_
  refine tj_astore (lv' := [(0, .inr (.inr (a0))), (1, .inl (a1)), (2, .inl (a2)), (3, .inr (.inr (x2))), (4, .inr (.inr (x3)))]) ok dX10_look_10 (by decide) rfl ?_
  refine tj_iload_n ok 2 dX10_look_12 rfl rfl ?_
  by_cases hc0 : a2 = 0
  · rw [if_pos hc0] at hf
    have hx : (a2).toInt = 0 := by rw [hc0]; decide
    refine tj_tabIn (off := 43) (tgt := 56) ok dX10_look_13 (by rw [hx]; decide) (by rw [hx]; decide) (by rw [hx]; decide) (by decide) ?_
    refine tj_sub (lv' := [(4, .inr (.inr (x3)))]) [4] rfl ?_
    exact (q_X10_look_56 hf).2 X g K ok nmx lev hK en
  rw [if_neg hc0] at hf
  have hn0 := tn_i (n := 0) (by decide) hc0
  have hp0 := tn_j hn0
  by_cases hc1 : a2 = 1
  · rw [if_pos hc1] at hf
    have hx : (a2).toInt = 1 := by rw [hc1]; decide
    refine tj_tabIn (off := 49) (tgt := 62) ok dX10_look_13 (by rw [hx]; decide) (by rw [hx]; decide) (by rw [hx]; decide) (by decide) ?_
    refine tj_sub (lv' := [(4, .inr (.inr (x3)))]) [4] rfl ?_
    exact (q_X10_look_62 hf).2 X g K ok nmx lev hK en
  rw [if_neg hc1] at hf
  have hn1 := tn_i (n := 1) (by decide) hc1
  have hp1 := tn_j hn1
  by_cases hc2 : a2 = 2
  · rw [if_pos hc2] at hf
    have hx : (a2).toInt = 2 := by rw [hc2]; decide
    refine tj_tabIn (off := 55) (tgt := 68) ok dX10_look_13 (by rw [hx]; decide) (by rw [hx]; decide) (by rw [hx]; decide) (by decide) ?_
    refine tj_sub (lv' := [(3, .inr (.inr (x2)))]) [3] rfl ?_
    exact (q_X10_look_68 hf).2 X g K ok nmx lev hK en
  rw [if_neg hc2] at hf
  have hn2 := tn_i (n := 2) (by decide) hc2
  have hp2 := tn_j hn2
  by_cases hc3 : a2 = 3
  · rw [if_pos hc3] at hf
    have hx : (a2).toInt = 3 := by rw [hc3]; decide
    refine tj_tabIn (off := 60) (tgt := 73) ok dX10_look_13 (by rw [hx]; decide) (by rw [hx]; decide) (by rw [hx]; decide) (by decide) ?_
    refine tj_sub (lv' := [(4, .inr (.inr (x3)))]) [4] rfl ?_
    exact (q_X10_look_73 hf).2 X g K ok nmx lev hK en
  rw [if_neg hc3] at hf
  have hn3 := tn_i (n := 3) (by decide) hc3
  have hp3 := tn_j hn3
  by_cases hc4 : a2 = 4
  · rw [if_pos hc4] at hf
    have hx : (a2).toInt = 4 := by rw [hc4]; decide
    refine tj_tabIn (off := 69) (tgt := 82) ok dX10_look_13 (by rw [hx]; decide) (by rw [hx]; decide) (by rw [hx]; decide) (by decide) ?_
    refine tj_sub (lv' := [(4, .inr (.inr (x3)))]) [4] rfl ?_
    exact (q_X10_look_82 hf).2 X g K ok nmx lev hK en
  rw [if_neg hc4] at hf
  have hn4 := tn_i (n := 4) (by decide) hc4
  have hp4 := tn_j hn4
  by_cases hc5 : a2 = 5
  · rw [if_pos hc5] at hf
    have hx : (a2).toInt = 5 := by rw [hc5]; decide
    refine tj_tabIn (off := 78) (tgt := 91) ok dX10_look_13 (by rw [hx]; decide) (by rw [hx]; decide) (by rw [hx]; decide) (by decide) ?_
    refine tj_sub (lv' := [(4, .inr (.inr (x3)))]) [4] rfl ?_
    exact (q_X10_look_91 hf).2 X g K ok nmx lev hK en
  rw [if_neg hc5] at hf
  have hn5 := tn_i (n := 5) (by decide) hc5
  have hp5 := tn_j hn5
  by_cases hc6 : a2 = 6
  · rw [if_pos hc6] at hf
    have hx : (a2).toInt = 6 := by rw [hc6]; decide
    refine tj_tabIn (off := 84) (tgt := 97) ok dX10_look_13 (by rw [hx]; decide) (by rw [hx]; decide) (by rw [hx]; decide) (by decide) ?_
    refine tj_sub (lv' := [(4, .inr (.inr (x3)))]) [4] rfl ?_
    exact (q_X10_look_97 hf).2 X g K ok nmx lev hK en
  rw [if_neg hc6] at hf
  have hn6 := tn_i (n := 6) (by decide) hc6
  have hp6 := tn_j hn6
  refine tj_tabOut (tgt := 103) ok dX10_look_13 (by omega) (by decide) ?_
  refine tj_sub (lv' := []) [] rfl ?_
  exact (q_X10_look_103 hf).2 X g K ok nmx lev hK en
def f_X10_look (a0 : Nat) (a1 : Int32) (a2 : Int32) (h : AH) : Option (Int32 × AH) := b_X10_look_0  a0 a1 a2 h
theorem c_X10_look {a0 : Nat} {a1 : Int32} {a2 : Int32} {h hE : AH} {v : Int32} (hf : f_X10_look a0 a1 a2 h = some (v, hE)) : ∀ g : GT, CM g (4) yX10_look cX10_look 5 (some .int) h [.inr (.inr (a0)), .inl (a1), .inl (a2)] hE (some (.inl (v))) :=
  CM.ofJ (by decide) (by show _ ≤ 5; exact Nat.le_of_ble_eq_true rfl) (q_X10_look_0 hf)
set_option maxHeartbeats 4000000 in
set_option maxRecDepth 100000 in
theorem t_X10_look_0 {a0 : Nat} {a1 : Int32} {a2 : Int32} {h hE : AH} {E : Nat} {x1 : Unit} (e1 : ok_v h a0 10 = some x1) (hx : ∀ g : GT, CT g 10 yX10_programAt cX10_programAt 3 (some (.object "LitmusHouse$Program")) h [.inr (.inr (a0)), .inl (a1)] hE E) : ∀ g : GT, CT g 12 yX10_look cX10_look 5 (some .int) h [.inr (.inr (a0)), .inl (a1), .inl (a2)] hE E := by
  intro g
  have mE := (hx g).1
  refine CT.of (by decide) (by show _ ≤ 5; exact Nat.le_of_ble_eq_true rfl) (by omega) (fun X ok nmx lev th => ?_)
  refine tj_aload_n ok 0 dX10_look_0 rfl rfl ?_
  refine tj_iload_n ok 1 dX10_look_1 rfl rfl ?_
  exact tj_xV (rest := ([] : List TV).map (vl g)) (as := [.inl (a1)]) ok lev (by omega) fcX10.1 (by decide) rfl (of_if e1).1 (hx g) th kn_X10_programAt wm_1168 wm_1169 wm_1170 (rs_ok (Nat.le_of_ble_eq_true rfl)) rfl dX10_look_2
/-! ===== LitmusHouse.make(III)I ===== -/
def b_X10_make_30 (a0 : Nat) (a2 : Int32) (a3 : Int32) (a4 : Nat) (h : AH) : Option (Int32 × AH) :=
  (g_r h a0 10 1).bind fun x1 => (ok_v h a4 5).bind fun x2 => (f_X5_withVolatile a4 a2 h).bind fun q3 => (s_r q3.2 x1 a3 q3.1).bind fun h4 => (f_J6_bitCount_0f7a4 a2 h4).bind fun q5 => some (q5.1, q5.2)
set_option maxHeartbeats 4000000 in
set_option maxRecDepth 100000 in
theorem q_X10_make_30 {a0 : Nat} {a2 : Int32} {a3 : Int32} {a4 : Nat} {h hE : AH} {v : Int32} (hf : b_X10_make_30 a0 a2 a3 a4 h = some (v, hE)) : JD cX10_make 5 RX10 "make" (some .int) (5) 30 [(0, .inr (.inr (a0))), (2, .inl (a2)), (3, .inl (a3)), (4, .inr (.inr (a4)))] [] h hE (some (.inl (v))) := by
  unfold b_X10_make_30 at hf
  obtain ⟨x1, e1, hf⟩ := bnd hf
  obtain ⟨x2, e2, hf⟩ := bnd hf
  obtain ⟨⟨x3, h3⟩, e3, hf⟩ := bnd hf
  try dsimp only at hf
  have k3 := c_X5_withVolatile e3
  have m3 := (k3 default_g).1
  obtain ⟨h4, e4, hf⟩ := bnd hf
  have m4 := nn_sr e4
  obtain ⟨⟨x5, h5⟩, e5, hf⟩ := bnd hf
  try dsimp only at hf
  have k5 := c_J6_bitCount_0f7a4 e5
  have m5 := (k5 default_g).1
  obtain ⟨hv, hh⟩ := Prod.mk.inj (Option.some.inj hf)
  subst hv
  subst hh
  have mE : hp_n h5 ≤ hp_n h5 ∧ hp_s h5 ≤ hp_s h5 := ⟨Nat.le_refl _, Nat.le_refl _⟩
  refine ⟨by omega, fun X g K ok nmx lev hK en => ?_⟩
  refine tj_aload_n ok 0 dX10_make_30 rfl rfl ?_
  refine tj_getR (k := 1) ok fcX10 (by decide) wm_199 rfl (Or.inr ⟨_, rfl⟩) dX10_make_31 e1 ?_
  refine tj_iload_n ok 2 dX10_make_34 rfl rfl ?_
  refine tj_aload ok 3 dX10_make_35 rfl ?_
  refine tj_iload_n ok 1 dX10_make_37 rfl rfl ?_
  refine tj_callV (rest := ([.inl (a3), .inr (.inr (x1))] : List TV).map (vl g)) (as := [.inl (a2)]) ok lev (by omega) fcX5.1 (by decide) rfl (of_if e2).1 (k3 g) (CaX.of en (by omega)) kn_X5_withVolatile wm_1209 wm_1210 wm_1211 (rs_ok (Nat.le_of_ble_eq_true rfl)) rfl rfl dX10_make_38 ?_
  refine tj_aastore ok dX10_make_41 e4 ?_
  refine tj_iload_n ok 1 dX10_make_42 rfl rfl ?_
  refine tj_callS (rest := ([] : List TV).map (vl g)) (as := [.inl (a2)]) ok lev (by omega) (k5 g) (CaX.of en (by omega)) kn_J6_bitCount_0f7a4 wm_1188 wm_973 (rs_ok (Nat.le_of_ble_eq_true rfl)) rfl rfl dX10_make_43 ?_
  exact tj_ireturn ok en dX10_make_46
def b_X10_make_28  (h : AH) : Option (Int32 × AH) :=
  some ((-1 : Int32), h)
set_option maxHeartbeats 4000000 in
set_option maxRecDepth 100000 in
theorem q_X10_make_28 {h hE : AH} {v : Int32} (hf : b_X10_make_28  h = some (v, hE)) : JD cX10_make 5 RX10 "make" (some .int) (5) 28 [] [] h hE (some (.inl (v))) := by
  unfold b_X10_make_28 at hf
  obtain ⟨hv, hh⟩ := Prod.mk.inj (Option.some.inj hf)
  subst hv
  subst hh
  have mE : hp_n h ≤ hp_n h ∧ hp_s h ≤ hp_s h := ⟨Nat.le_refl _, Nat.le_refl _⟩
  refine ⟨by omega, fun X g K ok nmx lev hK en => ?_⟩
  refine tj_iconst (v := -1) ok dX10_make_28 (by decide) ?_
  exact tj_ireturn ok en dX10_make_29
def b_X10_make_0 (a0 : Nat) (a1 : Int32) (a2 : Int32) (a3 : Int32) (h : AH) : Option (Int32 × AH) :=
  (f_X10_demandPlace a1 h).bind fun h1 => (f_X10_demandPlace a3 h1).bind fun h2 => (ok_v h2 a0 10).bind fun x3 => (f_X10_programAt a0 a1 h2).bind fun q4 => (ok_v q4.2 q4.1 5).bind fun x5 => (f_X5_cellsOfKind q4.1 (0 : Int32) q4.2).bind fun q6 => if (a2 &&& (q6.1 ^^^ (-1 : Int32))) = 0 then b_X10_make_30 a0 a2 a3 q4.1 q6.2 else b_X10_make_28 q6.2
set_option maxHeartbeats 4000000 in
set_option maxRecDepth 100000 in
theorem q_X10_make_0 {a0 : Nat} {a1 : Int32} {a2 : Int32} {a3 : Int32} {h hE : AH} {v : Int32} (hf : b_X10_make_0 a0 a1 a2 a3 h = some (v, hE)) : JD cX10_make 5 RX10 "make" (some .int) (5) 0 [(0, .inr (.inr (a0))), (1, .inl (a1)), (2, .inl (a2)), (3, .inl (a3))] [] h hE (some (.inl (v))) := by
  unfold b_X10_make_0 at hf
  obtain ⟨h1, e1, hf⟩ := bnd hf
  have k1 := c_X10_demandPlace e1
  have m1 := (k1 default_g).1
  obtain ⟨h2, e2, hf⟩ := bnd hf
  have k2 := c_X10_demandPlace e2
  have m2 := (k2 default_g).1
  obtain ⟨x3, e3, hf⟩ := bnd hf
  obtain ⟨⟨x4, h4⟩, e4, hf⟩ := bnd hf
  try dsimp only at hf
  have k4 := c_X10_programAt e4
  have m4 := (k4 default_g).1
  obtain ⟨x5, e5, hf⟩ := bnd hf
  obtain ⟨⟨x6, h6⟩, e6, hf⟩ := bnd hf
  try dsimp only at hf
  have k6 := c_X5_cellsOfKind e6
  have m6 := (k6 default_g).1
  have mE : hp_n h6 ≤ hp_n hE ∧ hp_s h6 ≤ hp_s hE := by
    by_cases hc : (a2 &&& (x6 ^^^ (-1 : Int32))) = 0
    · rw [if_pos hc] at hf; exact (q_X10_make_30 hf).1
    · rw [if_neg hc] at hf; exact (q_X10_make_28 hf).1
  refine ⟨by omega, fun X g K ok nmx lev hK en => ?_⟩
  refine tj_iload_n ok 1 dX10_make_0 rfl rfl ?_
  refine tj_callS (rest := ([] : List TV).map (vl g)) (as := [.inl (a1)]) ok lev (by omega) (k1 g) (CaX.of en (by omega)) kn_X10_demandPlace wm_1159 wm_1160 (rs_ok (Nat.le_of_ble_eq_true rfl)) rfl rfl dX10_make_1 ?_
  refine tj_iload_n ok 3 dX10_make_4 rfl rfl ?_
  refine tj_callS (rest := ([] : List TV).map (vl g)) (as := [.inl (a3)]) ok lev (by omega) (k2 g) (CaX.of en (by omega)) kn_X10_demandPlace wm_1159 wm_1160 (rs_ok (Nat.le_of_ble_eq_true rfl)) rfl rfl dX10_make_5 ?_
  refine tj_aload_n ok 0 dX10_make_8 rfl rfl ?_
  refine tj_iload_n ok 1 dX10_make_9 rfl rfl ?_
  refine tj_callV (rest := ([] : List TV).map (vl g)) (as := [.inl (a1)]) ok lev (by omega) fcX10.1 (by decide) rfl (of_if e3).1 (k4 g) (CaX.of en (by omega)) kn_X10_programAt wm_1168 wm_1169 wm_1170 (rs_ok (Nat.le_of_ble_eq_true rfl)) rfl rfl dX10_make_10 ?_
  refine tj_astore (lv' := [(0, .inr (.inr (a0))), (1, .inl (a1)), (2, .inl (a2)), (3, .inl (a3)), (4, .inr (.inr (x4)))]) ok dX10_make_13 (by decide) rfl ?_
  refine tj_iload_n ok 2 dX10_make_15 rfl rfl ?_
  refine tj_aload ok 4 dX10_make_16 rfl ?_
  refine tj_iconst (v := 0) ok dX10_make_18 (by decide) ?_
  refine tj_callV (rest := ([.inl (a2)] : List TV).map (vl g)) (as := [.inl ((0 : Int32))]) ok lev (by omega) fcX5.1 (by decide) rfl (of_if e5).1 (k6 g) (CaX.of en (by omega)) kn_X5_cellsOfKind wm_1189 wm_467 wm_468 (rs_ok (Nat.le_of_ble_eq_true rfl)) rfl rfl dX10_make_19 ?_
  refine tj_iconst (v := -1) ok dX10_make_22 (by decide) ?_
  refine tj_ixor ok dX10_make_23 ?_
  refine tj_iand ok dX10_make_24 ?_
  refine tj_if_eq (tgt := 30) ok dX10_make_25 (by decide) (fun hc => ?_) (fun hc => ?_)
  · rw [if_pos hc] at hf
    refine tj_sub (lv' := [(0, .inr (.inr (a0))), (2, .inl (a2)), (3, .inl (a3)), (4, .inr (.inr (x4)))]) [0, 2, 3, 4] rfl ?_
    exact (q_X10_make_30 hf).2 X g K ok nmx lev hK en
  · rw [if_neg hc] at hf
    refine tj_sub (lv' := []) [] rfl ?_
    exact (q_X10_make_28 hf).2 X g K ok nmx lev hK en
def f_X10_make (a0 : Nat) (a1 : Int32) (a2 : Int32) (a3 : Int32) (h : AH) : Option (Int32 × AH) := b_X10_make_0  a0 a1 a2 a3 h
theorem c_X10_make {a0 : Nat} {a1 : Int32} {a2 : Int32} {a3 : Int32} {h hE : AH} {v : Int32} (hf : f_X10_make a0 a1 a2 a3 h = some (v, hE)) : ∀ g : GT, CM g (5) yX10_make cX10_make 5 (some .int) h [.inr (.inr (a0)), .inl (a1), .inl (a2), .inl (a3)] hE (some (.inl (v))) :=
  CM.ofJ (by decide) (by show _ ≤ 5; exact Nat.le_of_ble_eq_true rfl) (q_X10_make_0 hf)
set_option maxHeartbeats 4000000 in
set_option maxRecDepth 100000 in
theorem t_X10_make_0 {a0 : Nat} {a1 : Int32} {a2 : Int32} {a3 : Int32} {h hE : AH} {E : Nat} (hx : ∀ g : GT, CT g 8 yX10_demandPlace cX10_demandPlace 1 none h [.inl (a1)] hE E) : ∀ g : GT, CT g 12 yX10_make cX10_make 5 (some .int) h [.inr (.inr (a0)), .inl (a1), .inl (a2), .inl (a3)] hE E := by
  intro g
  have mE := (hx g).1
  refine CT.of (by decide) (by show _ ≤ 5; exact Nat.le_of_ble_eq_true rfl) (by omega) (fun X ok nmx lev th => ?_)
  refine tj_iload_n ok 1 dX10_make_0 rfl rfl ?_
  exact tj_xS (rest := ([] : List TV).map (vl g)) (as := [.inl (a1)]) ok lev (by omega) (hx g) th kn_X10_demandPlace wm_1159 wm_1160 (rs_ok (Nat.le_of_ble_eq_true rfl)) rfl dX10_make_1
set_option maxHeartbeats 4000000 in
set_option maxRecDepth 100000 in
theorem t_X10_make_1 {a0 : Nat} {a1 : Int32} {a2 : Int32} {a3 : Int32} {h hE : AH} {E : Nat} {h1 : AH} (e1 : f_X10_demandPlace a1 h = some h1) (hx : ∀ g : GT, CT g 8 yX10_demandPlace cX10_demandPlace 1 none h1 [.inl (a3)] hE E) : ∀ g : GT, CT g 12 yX10_make cX10_make 5 (some .int) h [.inr (.inr (a0)), .inl (a1), .inl (a2), .inl (a3)] hE E := by
  intro g
  have k1 := c_X10_demandPlace e1
  have m1 := (k1 default_g).1
  have mE := (hx g).1
  refine CT.of (by decide) (by show _ ≤ 5; exact Nat.le_of_ble_eq_true rfl) (by omega) (fun X ok nmx lev th => ?_)
  refine tj_iload_n ok 1 dX10_make_0 rfl rfl ?_
  refine tj_callS (rest := ([] : List TV).map (vl g)) (as := [.inl (a1)]) ok lev (by omega) (k1 g) (CaX.ofT th (by omega)) kn_X10_demandPlace wm_1159 wm_1160 (rs_ok (Nat.le_of_ble_eq_true rfl)) rfl rfl dX10_make_1 ?_
  refine tj_iload_n ok 3 dX10_make_4 rfl rfl ?_
  exact tj_xS (rest := ([] : List TV).map (vl g)) (as := [.inl (a3)]) ok lev (by omega) (hx g) th kn_X10_demandPlace wm_1159 wm_1160 (rs_ok (Nat.le_of_ble_eq_true rfl)) rfl dX10_make_5
set_option maxHeartbeats 4000000 in
set_option maxRecDepth 100000 in
theorem t_X10_make_2 {a0 : Nat} {a1 : Int32} {a2 : Int32} {a3 : Int32} {h hE : AH} {E : Nat} {h1 : AH} (e1 : f_X10_demandPlace a1 h = some h1) {h2 : AH} (e2 : f_X10_demandPlace a3 h1 = some h2) {x3 : Unit} (e3 : ok_v h2 a0 10 = some x3) (hx : ∀ g : GT, CT g 10 yX10_programAt cX10_programAt 3 (some (.object "LitmusHouse$Program")) h2 [.inr (.inr (a0)), .inl (a1)] hE E) : ∀ g : GT, CT g 12 yX10_make cX10_make 5 (some .int) h [.inr (.inr (a0)), .inl (a1), .inl (a2), .inl (a3)] hE E := by
  intro g
  have k1 := c_X10_demandPlace e1
  have m1 := (k1 default_g).1
  have k2 := c_X10_demandPlace e2
  have m2 := (k2 default_g).1
  have mE := (hx g).1
  refine CT.of (by decide) (by show _ ≤ 5; exact Nat.le_of_ble_eq_true rfl) (by omega) (fun X ok nmx lev th => ?_)
  refine tj_iload_n ok 1 dX10_make_0 rfl rfl ?_
  refine tj_callS (rest := ([] : List TV).map (vl g)) (as := [.inl (a1)]) ok lev (by omega) (k1 g) (CaX.ofT th (by omega)) kn_X10_demandPlace wm_1159 wm_1160 (rs_ok (Nat.le_of_ble_eq_true rfl)) rfl rfl dX10_make_1 ?_
  refine tj_iload_n ok 3 dX10_make_4 rfl rfl ?_
  refine tj_callS (rest := ([] : List TV).map (vl g)) (as := [.inl (a3)]) ok lev (by omega) (k2 g) (CaX.ofT th (by omega)) kn_X10_demandPlace wm_1159 wm_1160 (rs_ok (Nat.le_of_ble_eq_true rfl)) rfl rfl dX10_make_5 ?_
  refine tj_aload_n ok 0 dX10_make_8 rfl rfl ?_
  refine tj_iload_n ok 1 dX10_make_9 rfl rfl ?_
  exact tj_xV (rest := ([] : List TV).map (vl g)) (as := [.inl (a1)]) ok lev (by omega) fcX10.1 (by decide) rfl (of_if e3).1 (hx g) th kn_X10_programAt wm_1168 wm_1169 wm_1170 (rs_ok (Nat.le_of_ble_eq_true rfl)) rfl dX10_make_10
/-! ===== LitmusHouse.outcomes(II)I ===== -/
def b_X10_outcomes_24 (s0 : Int32) (h : AH) : Option (Int32 × AH) :=
  some (s0, h)
set_option maxHeartbeats 4000000 in
set_option maxRecDepth 100000 in
theorem q_X10_outcomes_24 {s0 : Int32} {h hE : AH} {v : Int32} (hf : b_X10_outcomes_24 s0 h = some (v, hE)) : JD cX10_outcomes 4 RX10 "outcomes" (some .int) (147) 24 [] [.inl (s0)] h hE (some (.inl (v))) := by
  unfold b_X10_outcomes_24 at hf
  obtain ⟨hv, hh⟩ := Prod.mk.inj (Option.some.inj hf)
  subst hv
  subst hh
  have mE : hp_n h ≤ hp_n h ∧ hp_s h ≤ hp_s h := ⟨Nat.le_refl _, Nat.le_refl _⟩
  refine ⟨by omega, fun X g K ok nmx lev hK en => ?_⟩
  exact tj_ireturn ok en dX10_outcomes_24
def b_X10_outcomes_23  (h : AH) : Option (Int32 × AH) :=
  b_X10_outcomes_24 (-1 : Int32) h
set_option maxHeartbeats 4000000 in
set_option maxRecDepth 100000 in
theorem q_X10_outcomes_23 {h hE : AH} {v : Int32} (hf : b_X10_outcomes_23  h = some (v, hE)) : JD cX10_outcomes 4 RX10 "outcomes" (some .int) (147) 23 [] [] h hE (some (.inl (v))) := by
  unfold b_X10_outcomes_23 at hf
  have J := q_X10_outcomes_24 hf
  have mE := J.1
  refine ⟨by omega, fun X g K ok nmx lev hK en => ?_⟩
  refine tj_iconst (v := -1) ok dX10_outcomes_23 (by decide) ?_
  exact J.2 X g K ok nmx lev hK en
def b_X10_outcomes_13 (a0 : Nat) (a2 : Int32) (a3 : Nat) (h : AH) : Option (Int32 × AH) :=
  (ok_v h a0 10).bind fun x1 => (f_X10_outcomesOf a0 a3 a2 h).bind fun q2 => (al_n q2.2 q2.1).bind fun x3 => b_X10_outcomes_24 x3 q2.2
set_option maxHeartbeats 4000000 in
set_option maxRecDepth 100000 in
theorem q_X10_outcomes_13 {a0 : Nat} {a2 : Int32} {a3 : Nat} {h hE : AH} {v : Int32} (hf : b_X10_outcomes_13 a0 a2 a3 h = some (v, hE)) : JD cX10_outcomes 4 RX10 "outcomes" (some .int) (147) 13 [(0, .inr (.inr (a0))), (2, .inl (a2)), (3, .inr (.inr (a3)))] [] h hE (some (.inl (v))) := by
  unfold b_X10_outcomes_13 at hf
  obtain ⟨x1, e1, hf⟩ := bnd hf
  obtain ⟨⟨x2, h2⟩, e2, hf⟩ := bnd hf
  try dsimp only at hf
  have k2 := c_X10_outcomesOf e2
  have m2 := (k2 default_g).1
  obtain ⟨x3, e3, hf⟩ := bnd hf
  have J := q_X10_outcomes_24 hf
  have mE := J.1
  refine ⟨by omega, fun X g K ok nmx lev hK en => ?_⟩
  refine tj_aload_n ok 0 dX10_outcomes_13 rfl rfl ?_
  refine tj_aload_n ok 2 dX10_outcomes_14 rfl rfl ?_
  refine tj_iload_n ok 1 dX10_outcomes_15 rfl rfl ?_
  refine tj_callV (rest := ([] : List TV).map (vl g)) (as := [.inr (.inr (a3)), .inl (a2)]) ok lev (by omega) fcX10.1 (by decide) rfl (of_if e1).1 (k2 g) (CaX.of en (by omega)) kn_X10_outcomesOf wm_1174 wm_1175 wm_1176 (rs_ok (Nat.le_of_ble_eq_true rfl)) rfl rfl dX10_outcomes_16 ?_
  refine tj_alen ok dX10_outcomes_19 e3 ?_
  refine tj_goto (tgt := 24) ok dX10_outcomes_20 (by decide) ?_
  refine tj_sub (lv' := []) [] rfl ?_
  exact J.2 X g K ok nmx lev hK en
def b_X10_outcomes_0 (a0 : Nat) (a1 : Int32) (a2 : Int32) (h : AH) : Option (Int32 × AH) :=
  (ok_v h a0 10).bind fun x1 => (f_X10_programAt a0 a1 h).bind fun q2 => (f_X10_isOrder a2 q2.2).bind fun q3 => if q3.1 = 0 then b_X10_outcomes_23 q3.2 else b_X10_outcomes_13 a0 a2 q2.1 q3.2
set_option maxHeartbeats 4000000 in
set_option maxRecDepth 100000 in
theorem q_X10_outcomes_0 {a0 : Nat} {a1 : Int32} {a2 : Int32} {h hE : AH} {v : Int32} (hf : b_X10_outcomes_0 a0 a1 a2 h = some (v, hE)) : JD cX10_outcomes 4 RX10 "outcomes" (some .int) (147) 0 [(0, .inr (.inr (a0))), (1, .inl (a1)), (2, .inl (a2))] [] h hE (some (.inl (v))) := by
  unfold b_X10_outcomes_0 at hf
  obtain ⟨x1, e1, hf⟩ := bnd hf
  obtain ⟨⟨x2, h2⟩, e2, hf⟩ := bnd hf
  try dsimp only at hf
  have k2 := c_X10_programAt e2
  have m2 := (k2 default_g).1
  obtain ⟨⟨x3, h3⟩, e3, hf⟩ := bnd hf
  try dsimp only at hf
  have k3 := c_X10_isOrder e3
  have m3 := (k3 default_g).1
  have mE : hp_n h3 ≤ hp_n hE ∧ hp_s h3 ≤ hp_s hE := by
    by_cases hc : x3 = 0
    · rw [if_pos hc] at hf; exact (q_X10_outcomes_23 hf).1
    · rw [if_neg hc] at hf; exact (q_X10_outcomes_13 hf).1
  refine ⟨by omega, fun X g K ok nmx lev hK en => ?_⟩
  refine tj_aload_n ok 0 dX10_outcomes_0 rfl rfl ?_
  refine tj_iload_n ok 1 dX10_outcomes_1 rfl rfl ?_
  refine tj_callV (rest := ([] : List TV).map (vl g)) (as := [.inl (a1)]) ok lev (by omega) fcX10.1 (by decide) rfl (of_if e1).1 (k2 g) (CaX.of en (by omega)) kn_X10_programAt wm_1168 wm_1169 wm_1170 (rs_ok (Nat.le_of_ble_eq_true rfl)) rfl rfl dX10_outcomes_2 ?_
  refine tj_astore_n (lv' := [(0, .inr (.inr (a0))), (1, .inl (a1)), (2, .inl (a2)), (3, .inr (.inr (x2)))]) ok dX10_outcomes_5 rfl (by decide) rfl ?_
  refine tj_iload_n ok 2 dX10_outcomes_6 rfl rfl ?_
  refine tj_callS (rest := ([] : List TV).map (vl g)) (as := [.inl (a2)]) ok lev (by omega) (k3 g) (CaX.of en (by omega)) kn_X10_isOrder wm_1177 wm_1178 (rs_ok (Nat.le_of_ble_eq_true rfl)) rfl rfl dX10_outcomes_7 ?_
  refine tj_if_eq (tgt := 23) ok dX10_outcomes_10 (by decide) (fun hc => ?_) (fun hc => ?_)
  · rw [if_pos hc] at hf
    refine tj_sub (lv' := []) [] rfl ?_
    exact (q_X10_outcomes_23 hf).2 X g K ok nmx lev hK en
  · rw [if_neg hc] at hf
    refine tj_sub (lv' := [(0, .inr (.inr (a0))), (2, .inl (a2)), (3, .inr (.inr (x2)))]) [0, 2, 3] rfl ?_
    exact (q_X10_outcomes_13 hf).2 X g K ok nmx lev hK en
def f_X10_outcomes (a0 : Nat) (a1 : Int32) (a2 : Int32) (h : AH) : Option (Int32 × AH) := b_X10_outcomes_0  a0 a1 a2 h
theorem c_X10_outcomes {a0 : Nat} {a1 : Int32} {a2 : Int32} {h hE : AH} {v : Int32} (hf : f_X10_outcomes a0 a1 a2 h = some (v, hE)) : ∀ g : GT, CM g (147) yX10_outcomes cX10_outcomes 4 (some .int) h [.inr (.inr (a0)), .inl (a1), .inl (a2)] hE (some (.inl (v))) :=
  CM.ofJ (by decide) (by show _ ≤ 4; exact Nat.le_of_ble_eq_true rfl) (q_X10_outcomes_0 hf)
set_option maxHeartbeats 4000000 in
set_option maxRecDepth 100000 in
theorem t_X10_outcomes_0 {a0 : Nat} {a1 : Int32} {a2 : Int32} {h hE : AH} {E : Nat} {x1 : Unit} (e1 : ok_v h a0 10 = some x1) (hx : ∀ g : GT, CT g 10 yX10_programAt cX10_programAt 3 (some (.object "LitmusHouse$Program")) h [.inr (.inr (a0)), .inl (a1)] hE E) : ∀ g : GT, CT g 12 yX10_outcomes cX10_outcomes 4 (some .int) h [.inr (.inr (a0)), .inl (a1), .inl (a2)] hE E := by
  intro g
  have mE := (hx g).1
  refine CT.of (by decide) (by show _ ≤ 4; exact Nat.le_of_ble_eq_true rfl) (by omega) (fun X ok nmx lev th => ?_)
  refine tj_aload_n ok 0 dX10_outcomes_0 rfl rfl ?_
  refine tj_iload_n ok 1 dX10_outcomes_1 rfl rfl ?_
  exact tj_xV (rest := ([] : List TV).map (vl g)) (as := [.inl (a1)]) ok lev (by omega) fcX10.1 (by decide) rfl (of_if e1).1 (hx g) th kn_X10_programAt wm_1168 wm_1169 wm_1170 (rs_ok (Nat.le_of_ble_eq_true rfl)) rfl dX10_outcomes_2
/-! ===== LitmusHouse.print(I)I ===== -/
def b_X10_print_0 (a0 : Nat) (a1 : Int32) (h : AH) : Option (Int32 × AH) :=
  (g_r h a0 10 4).bind fun x1 => (ok_v h a0 10).bind fun x2 => (f_X10_programAt a0 a1 h).bind fun q3 => (ok_v q3.2 x1 4).bind fun x4 => (f_X4_write x1 q3.1 q3.2).bind fun q5 => some (q5.1, q5.2)
set_option maxHeartbeats 4000000 in
set_option maxRecDepth 100000 in
theorem q_X10_print_0 {a0 : Nat} {a1 : Int32} {h hE : AH} {v : Int32} (hf : b_X10_print_0 a0 a1 h = some (v, hE)) : JD cX10_print 2 RX10 "print" (some .int) (12) 0 [(0, .inr (.inr (a0))), (1, .inl (a1))] [] h hE (some (.inl (v))) := by
  unfold b_X10_print_0 at hf
  obtain ⟨x1, e1, hf⟩ := bnd hf
  obtain ⟨x2, e2, hf⟩ := bnd hf
  obtain ⟨⟨x3, h3⟩, e3, hf⟩ := bnd hf
  try dsimp only at hf
  have k3 := c_X10_programAt e3
  have m3 := (k3 default_g).1
  obtain ⟨x4, e4, hf⟩ := bnd hf
  obtain ⟨⟨x5, h5⟩, e5, hf⟩ := bnd hf
  try dsimp only at hf
  have k5 := c_X4_write e5
  have m5 := (k5 default_g).1
  obtain ⟨hv, hh⟩ := Prod.mk.inj (Option.some.inj hf)
  subst hv
  subst hh
  have mE : hp_n h5 ≤ hp_n h5 ∧ hp_s h5 ≤ hp_s h5 := ⟨Nat.le_refl _, Nat.le_refl _⟩
  refine ⟨by omega, fun X g K ok nmx lev hK en => ?_⟩
  refine tj_aload_n ok 0 dX10_print_0 rfl rfl ?_
  refine tj_getR (k := 4) ok fcX10 (by decide) wm_208 rfl (Or.inl ⟨_, rfl⟩) dX10_print_1 e1 ?_
  refine tj_aload_n ok 0 dX10_print_4 rfl rfl ?_
  refine tj_iload_n ok 1 dX10_print_5 rfl rfl ?_
  refine tj_callV (rest := ([.inr (.inr (x1))] : List TV).map (vl g)) (as := [.inl (a1)]) ok lev (by omega) fcX10.1 (by decide) rfl (of_if e2).1 (k3 g) (CaX.of en (by omega)) kn_X10_programAt wm_1168 wm_1169 wm_1170 (rs_ok (Nat.le_of_ble_eq_true rfl)) rfl rfl dX10_print_6 ?_
  refine tj_callV (rest := ([] : List TV).map (vl g)) (as := [.inr (.inr (x3))]) ok lev (by omega) fcX4.1 (by decide) rfl (of_if e4).1 (k5 g) (CaX.of en (by omega)) kn_X4_write wm_1214 wm_1215 wm_1216 (rs_ok (Nat.le_of_ble_eq_true rfl)) rfl rfl dX10_print_9 ?_
  exact tj_ireturn ok en dX10_print_12
def f_X10_print (a0 : Nat) (a1 : Int32) (h : AH) : Option (Int32 × AH) := b_X10_print_0  a0 a1 h
theorem c_X10_print {a0 : Nat} {a1 : Int32} {h hE : AH} {v : Int32} (hf : f_X10_print a0 a1 h = some (v, hE)) : ∀ g : GT, CM g (12) yX10_print cX10_print 2 (some .int) h [.inr (.inr (a0)), .inl (a1)] hE (some (.inl (v))) :=
  CM.ofJ (by decide) (by show _ ≤ 2; exact Nat.le_of_ble_eq_true rfl) (q_X10_print_0 hf)
set_option maxHeartbeats 4000000 in
set_option maxRecDepth 100000 in
theorem t_X10_print_0 {a0 : Nat} {a1 : Int32} {h hE : AH} {E : Nat} {x1 : Nat} (e1 : g_r h a0 10 4 = some x1) {x2 : Unit} (e2 : ok_v h a0 10 = some x2) (hx : ∀ g : GT, CT g 10 yX10_programAt cX10_programAt 3 (some (.object "LitmusHouse$Program")) h [.inr (.inr (a0)), .inl (a1)] hE E) : ∀ g : GT, CT g 12 yX10_print cX10_print 2 (some .int) h [.inr (.inr (a0)), .inl (a1)] hE E := by
  intro g
  have mE := (hx g).1
  refine CT.of (by decide) (by show _ ≤ 2; exact Nat.le_of_ble_eq_true rfl) (by omega) (fun X ok nmx lev th => ?_)
  refine tj_aload_n ok 0 dX10_print_0 rfl rfl ?_
  refine tj_getR (k := 4) ok fcX10 (by decide) wm_208 rfl (Or.inl ⟨_, rfl⟩) dX10_print_1 e1 ?_
  refine tj_aload_n ok 0 dX10_print_4 rfl rfl ?_
  refine tj_iload_n ok 1 dX10_print_5 rfl rfl ?_
  exact tj_xV (rest := ([.inr (.inr (x1))] : List TV).map (vl g)) (as := [.inl (a1)]) ok lev (by omega) fcX10.1 (by decide) rfl (of_if e2).1 (hx g) th kn_X10_programAt wm_1168 wm_1169 wm_1170 (rs_ok (Nat.le_of_ble_eq_true rfl)) rfl dX10_print_6
/-! ===== LitmusHouse.race(III)I ===== -/
def b_X10_race_24  (h : AH) : Option (Int32 × AH) :=
  some ((-1 : Int32), h)
set_option maxHeartbeats 4000000 in
set_option maxRecDepth 100000 in
theorem q_X10_race_24 {h hE : AH} {v : Int32} (hf : b_X10_race_24  h = some (v, hE)) : JD cX10_race 8 RX10 "race" (some .int) (147) 24 [] [] h hE (some (.inl (v))) := by
  unfold b_X10_race_24 at hf
  obtain ⟨hv, hh⟩ := Prod.mk.inj (Option.some.inj hf)
  subst hv
  subst hh
  have mE : hp_n h ≤ hp_n h ∧ hp_s h ≤ hp_s h := ⟨Nat.le_refl _, Nat.le_refl _⟩
  refine ⟨by omega, fun X g K ok nmx lev hK en => ?_⟩
  refine tj_iconst (v := -1) ok dX10_race_24 (by decide) ?_
  exact tj_ireturn ok en dX10_race_25
def b_X10_race_82  (h : AH) : Option (Int32 × AH) :=
  some ((-1 : Int32), h)
set_option maxHeartbeats 4000000 in
set_option maxRecDepth 100000 in
theorem q_X10_race_82 {h hE : AH} {v : Int32} (hf : b_X10_race_82  h = some (v, hE)) : JD cX10_race 8 RX10 "race" (some .int) (147) 82 [] [] h hE (some (.inl (v))) := by
  unfold b_X10_race_82 at hf
  obtain ⟨hv, hh⟩ := Prod.mk.inj (Option.some.inj hf)
  subst hv
  subst hh
  have mE : hp_n h ≤ hp_n h ∧ hp_s h ≤ hp_s h := ⟨Nat.le_refl _, Nat.le_refl _⟩
  refine ⟨by omega, fun X g K ok nmx lev hK en => ?_⟩
  refine tj_iconst (v := -1) ok dX10_race_82 (by decide) ?_
  exact tj_ireturn ok en dX10_race_83
def b_X10_race_76 (r32 : Int32 → Int64 → Int32 → Int32 → AH → Option (Int32 × AH)) (a3 : Int32) (a4 : Int64) (a6 : Int32) (a7 : Int32) (h : AH) : Option (Int32 × AH) :=
  r32 a3 a4 a6 (a7 + (1 : Int32)) h
set_option maxHeartbeats 4000000 in
set_option maxRecDepth 100000 in
theorem q_X10_race_76 {hE : AH} {v : Int32} {r32 : Int32 → Int64 → Int32 → Int32 → AH → Option (Int32 × AH)} (hr32 : ∀ (b3 : Int32) (b4 : Int64) (b6 : Int32) (b7 : Int32) (h : AH), r32 b3 b4 b6 b7 h = some (v, hE) → JD cX10_race 8 RX10 "race" (some .int) (147) 32 [(3, .inl (b3)), (4, .inr (.inl (b4))), (6, .inl (b6)), (7, .inl (b7))] [] h hE (some (.inl (v)))) {a3 : Int32} {a4 : Int64} {a6 : Int32} {a7 : Int32} {h : AH} (hf : b_X10_race_76 r32 a3 a4 a6 a7 h = some (v, hE)) : JD cX10_race 8 RX10 "race" (some .int) (147) 76 [(3, .inl (a3)), (4, .inr (.inl (a4))), (6, .inl (a6)), (7, .inl (a7))] [] h hE (some (.inl (v))) := by
  unfold b_X10_race_76 at hf
  have J := hr32 _ _ _ _ _ hf
  have mE := J.1
  refine ⟨by omega, fun X g K ok nmx lev hK en => ?_⟩
  refine tj_iinc (lv' := [(3, .inl (a3)), (4, .inr (.inl (a4))), (6, .inl (a6)), (7, .inl (a7 + (1 : Int32)))]) ok 3 dX10_race_76 rfl (rfl) (by decide) rfl ?_
  refine tj_goto (tgt := 32) ok dX10_race_79 (by decide) ?_
  exact J.2 X g K ok nmx lev hK en
def b_X10_race_73 (r32 : Int32 → Int64 → Int32 → Int32 → AH → Option (Int32 × AH)) (a3 : Int32) (a4 : Int64) (a6 : Int32) (a7 : Int32) (h : AH) : Option (Int32 × AH) :=
  b_X10_race_76 r32 a3 a4 (a6 + (-1 : Int32)) a7 h
set_option maxHeartbeats 4000000 in
set_option maxRecDepth 100000 in
theorem q_X10_race_73 {hE : AH} {v : Int32} {r32 : Int32 → Int64 → Int32 → Int32 → AH → Option (Int32 × AH)} (hr32 : ∀ (b3 : Int32) (b4 : Int64) (b6 : Int32) (b7 : Int32) (h : AH), r32 b3 b4 b6 b7 h = some (v, hE) → JD cX10_race 8 RX10 "race" (some .int) (147) 32 [(3, .inl (b3)), (4, .inr (.inl (b4))), (6, .inl (b6)), (7, .inl (b7))] [] h hE (some (.inl (v)))) {a3 : Int32} {a4 : Int64} {a6 : Int32} {a7 : Int32} {h : AH} (hf : b_X10_race_73 r32 a3 a4 a6 a7 h = some (v, hE)) : JD cX10_race 8 RX10 "race" (some .int) (147) 73 [(3, .inl (a3)), (4, .inr (.inl (a4))), (6, .inl (a6)), (7, .inl (a7))] [] h hE (some (.inl (v))) := by
  unfold b_X10_race_73 at hf
  have J := q_X10_race_76 hr32 hf
  have mE := J.1
  refine ⟨by omega, fun X g K ok nmx lev hK en => ?_⟩
  refine tj_iinc (lv' := [(3, .inl (a3)), (4, .inr (.inl (a4))), (6, .inl (a6 + (-1 : Int32))), (7, .inl (a7))]) ok 2 dX10_race_73 rfl (rfl) (by decide) rfl ?_
  exact J.2 X g K ok nmx lev hK en
def b_X10_race_72 (s0 : Int32) (h : AH) : Option (Int32 × AH) :=
  some (s0, h)
set_option maxHeartbeats 4000000 in
set_option maxRecDepth 100000 in
theorem q_X10_race_72 {s0 : Int32} {h hE : AH} {v : Int32} (hf : b_X10_race_72 s0 h = some (v, hE)) : JD cX10_race 8 RX10 "race" (some .int) (147) 72 [] [.inl (s0)] h hE (some (.inl (v))) := by
  unfold b_X10_race_72 at hf
  obtain ⟨hv, hh⟩ := Prod.mk.inj (Option.some.inj hf)
  subst hv
  subst hh
  have mE : hp_n h ≤ hp_n h ∧ hp_s h ≤ hp_s h := ⟨Nat.le_refl _, Nat.le_refl _⟩
  refine ⟨by omega, fun X g K ok nmx lev hK en => ?_⟩
  exact tj_ireturn ok en dX10_race_72
def b_X10_race_67 (a7 : Int32) (h : AH) : Option (Int32 × AH) :=
  b_X10_race_72 (a7 &&& (7 : Int32)) h
set_option maxHeartbeats 4000000 in
set_option maxRecDepth 100000 in
theorem q_X10_race_67 {a7 : Int32} {h hE : AH} {v : Int32} (hf : b_X10_race_67 a7 h = some (v, hE)) : JD cX10_race 8 RX10 "race" (some .int) (147) 67 [(7, .inl (a7))] [] h hE (some (.inl (v))) := by
  unfold b_X10_race_67 at hf
  have J := q_X10_race_72 hf
  have mE := J.1
  refine ⟨by omega, fun X g K ok nmx lev hK en => ?_⟩
  refine tj_iload ok 0 dX10_race_67 rfl ?_
  refine tj_bipush (v := 7) ok dX10_race_69 (by decide) ?_
  refine tj_iand ok dX10_race_71 ?_
  refine tj_sub (lv' := []) [] rfl ?_
  exact J.2 X g K ok nmx lev hK en
def b_X10_race_60 (a7 : Int32) (h : AH) : Option (Int32 × AH) :=
  b_X10_race_72 (a7 >>> ((3 : Int32) &&& 31)) h
set_option maxHeartbeats 4000000 in
set_option maxRecDepth 100000 in
theorem q_X10_race_60 {a7 : Int32} {h hE : AH} {v : Int32} (hf : b_X10_race_60 a7 h = some (v, hE)) : JD cX10_race 8 RX10 "race" (some .int) (147) 60 [(7, .inl (a7))] [] h hE (some (.inl (v))) := by
  unfold b_X10_race_60 at hf
  have J := q_X10_race_72 hf
  have mE := J.1
  refine ⟨by omega, fun X g K ok nmx lev hK en => ?_⟩
  refine tj_iload ok 0 dX10_race_60 rfl ?_
  refine tj_iconst (v := 3) ok dX10_race_62 (by decide) ?_
  refine tj_ishr ok dX10_race_63 ?_
  refine tj_goto (tgt := 72) ok dX10_race_64 (by decide) ?_
  refine tj_sub (lv' := []) [] rfl ?_
  exact J.2 X g K ok nmx lev hK en
def b_X10_race_56 (a3 : Int32) (a7 : Int32) (h : AH) : Option (Int32 × AH) :=
  if a3 = 0 then b_X10_race_60 a7 h else b_X10_race_67 a7 h
set_option maxHeartbeats 4000000 in
set_option maxRecDepth 100000 in
theorem q_X10_race_56 {a3 : Int32} {a7 : Int32} {h hE : AH} {v : Int32} (hf : b_X10_race_56 a3 a7 h = some (v, hE)) : JD cX10_race 8 RX10 "race" (some .int) (147) 56 [(3, .inl (a3)), (7, .inl (a7))] [] h hE (some (.inl (v))) := by
  unfold b_X10_race_56 at hf
  have mE : hp_n h ≤ hp_n hE ∧ hp_s h ≤ hp_s hE := by
    by_cases hc : a3 = 0
    · rw [if_pos hc] at hf; exact (q_X10_race_60 hf).1
    · rw [if_neg hc] at hf; exact (q_X10_race_67 hf).1
  refine ⟨by omega, fun X g K ok nmx lev hK en => ?_⟩
  refine tj_iload_n ok 0 dX10_race_56 rfl rfl ?_
  refine tj_if_ne (tgt := 67) ok dX10_race_57 (by decide) (fun hc => ?_) (fun hc => ?_)
  · rw [if_neg hc] at hf
    refine tj_sub (lv' := [(7, .inl (a7))]) [1] rfl ?_
    exact (q_X10_race_67 hf).2 X g K ok nmx lev hK en
  · rw [if_pos hc] at hf
    refine tj_sub (lv' := [(7, .inl (a7))]) [1] rfl ?_
    exact (q_X10_race_60 hf).2 X g K ok nmx lev hK en
def b_X10_race_51 (r32 : Int32 → Int64 → Int32 → Int32 → AH → Option (Int32 × AH)) (a3 : Int32) (a4 : Int64) (a6 : Int32) (a7 : Int32) (h : AH) : Option (Int32 × AH) :=
  if a6 = 0 then b_X10_race_56 a3 a7 h else b_X10_race_73 r32 a3 a4 a6 a7 h
set_option maxHeartbeats 4000000 in
set_option maxRecDepth 100000 in
theorem q_X10_race_51 {hE : AH} {v : Int32} {r32 : Int32 → Int64 → Int32 → Int32 → AH → Option (Int32 × AH)} (hr32 : ∀ (b3 : Int32) (b4 : Int64) (b6 : Int32) (b7 : Int32) (h : AH), r32 b3 b4 b6 b7 h = some (v, hE) → JD cX10_race 8 RX10 "race" (some .int) (147) 32 [(3, .inl (b3)), (4, .inr (.inl (b4))), (6, .inl (b6)), (7, .inl (b7))] [] h hE (some (.inl (v)))) {a3 : Int32} {a4 : Int64} {a6 : Int32} {a7 : Int32} {h : AH} (hf : b_X10_race_51 r32 a3 a4 a6 a7 h = some (v, hE)) : JD cX10_race 8 RX10 "race" (some .int) (147) 51 [(3, .inl (a3)), (4, .inr (.inl (a4))), (6, .inl (a6)), (7, .inl (a7))] [] h hE (some (.inl (v))) := by
  unfold b_X10_race_51 at hf
  have mE : hp_n h ≤ hp_n hE ∧ hp_s h ≤ hp_s hE := by
    by_cases hc : a6 = 0
    · rw [if_pos hc] at hf; exact (q_X10_race_56 hf).1
    · rw [if_neg hc] at hf; exact (q_X10_race_73 hr32 hf).1
  refine ⟨by omega, fun X g K ok nmx lev hK en => ?_⟩
  refine tj_iload ok 2 dX10_race_51 rfl ?_
  refine tj_if_ne (tgt := 73) ok dX10_race_53 (by decide) (fun hc => ?_) (fun hc => ?_)
  · rw [if_neg hc] at hf
    exact (q_X10_race_73 hr32 hf).2 X g K ok nmx lev hK en
  · rw [if_pos hc] at hf
    refine tj_sub (lv' := [(3, .inl (a3)), (7, .inl (a7))]) [0, 3] rfl ?_
    exact (q_X10_race_56 hf).2 X g K ok nmx lev hK en
def b_X10_race_39 (r32 : Int32 → Int64 → Int32 → Int32 → AH → Option (Int32 × AH)) (a3 : Int32) (a4 : Int64) (a6 : Int32) (a7 : Int32) (h : AH) : Option (Int32 × AH) :=
  if (lg_cmp ((us_j a4 a7) &&& (1 : Int64)) (0 : Int64)) = 0 then b_X10_race_76 r32 a3 a4 a6 a7 h else b_X10_race_51 r32 a3 a4 a6 a7 h
set_option maxHeartbeats 4000000 in
set_option maxRecDepth 100000 in
theorem q_X10_race_39 {hE : AH} {v : Int32} {r32 : Int32 → Int64 → Int32 → Int32 → AH → Option (Int32 × AH)} (hr32 : ∀ (b3 : Int32) (b4 : Int64) (b6 : Int32) (b7 : Int32) (h : AH), r32 b3 b4 b6 b7 h = some (v, hE) → JD cX10_race 8 RX10 "race" (some .int) (147) 32 [(3, .inl (b3)), (4, .inr (.inl (b4))), (6, .inl (b6)), (7, .inl (b7))] [] h hE (some (.inl (v)))) {a3 : Int32} {a4 : Int64} {a6 : Int32} {a7 : Int32} {h : AH} (hf : b_X10_race_39 r32 a3 a4 a6 a7 h = some (v, hE)) : JD cX10_race 8 RX10 "race" (some .int) (147) 39 [(3, .inl (a3)), (4, .inr (.inl (a4))), (6, .inl (a6)), (7, .inl (a7))] [] h hE (some (.inl (v))) := by
  unfold b_X10_race_39 at hf
  have mE : hp_n h ≤ hp_n hE ∧ hp_s h ≤ hp_s hE := by
    by_cases hc : (lg_cmp ((us_j a4 a7) &&& (1 : Int64)) (0 : Int64)) = 0
    · rw [if_pos hc] at hf; exact (q_X10_race_76 hr32 hf).1
    · rw [if_neg hc] at hf; exact (q_X10_race_51 hr32 hf).1
  refine ⟨by omega, fun X g K ok nmx lev hK en => ?_⟩
  refine tj_lload ok 1 dX10_race_39 rfl ?_
  refine tj_iload ok 3 dX10_race_41 rfl ?_
  refine tj_lushr ok dX10_race_43 ?_
  refine tj_lconst (v := 1) ok dX10_race_44 (by decide) ?_
  refine tj_land ok dX10_race_45 ?_
  refine tj_lconst (v := 0) ok dX10_race_46 (by decide) ?_
  refine tj_lcmp ok dX10_race_47 ?_
  refine tj_if_eq (tgt := 76) ok dX10_race_48 (by decide) (fun hc => ?_) (fun hc => ?_)
  · rw [if_pos hc] at hf
    exact (q_X10_race_76 hr32 hf).2 X g K ok nmx lev hK en
  · rw [if_neg hc] at hf
    exact (q_X10_race_51 hr32 hf).2 X g K ok nmx lev hK en
def b_X10_race_32 (r32 : Int32 → Int64 → Int32 → Int32 → AH → Option (Int32 × AH)) (a3 : Int32) (a4 : Int64) (a6 : Int32) (a7 : Int32) (h : AH) : Option (Int32 × AH) :=
  if (64 : Int32) ≤ a7 then b_X10_race_82 h else b_X10_race_39 r32 a3 a4 a6 a7 h
set_option maxHeartbeats 4000000 in
set_option maxRecDepth 100000 in
theorem q_X10_race_32 {hE : AH} {v : Int32} {r32 : Int32 → Int64 → Int32 → Int32 → AH → Option (Int32 × AH)} (hr32 : ∀ (b3 : Int32) (b4 : Int64) (b6 : Int32) (b7 : Int32) (h : AH), r32 b3 b4 b6 b7 h = some (v, hE) → JD cX10_race 8 RX10 "race" (some .int) (147) 32 [(3, .inl (b3)), (4, .inr (.inl (b4))), (6, .inl (b6)), (7, .inl (b7))] [] h hE (some (.inl (v)))) {a3 : Int32} {a4 : Int64} {a6 : Int32} {a7 : Int32} {h : AH} (hf : b_X10_race_32 r32 a3 a4 a6 a7 h = some (v, hE)) : JD cX10_race 8 RX10 "race" (some .int) (147) 32 [(3, .inl (a3)), (4, .inr (.inl (a4))), (6, .inl (a6)), (7, .inl (a7))] [] h hE (some (.inl (v))) := by
  unfold b_X10_race_32 at hf
  have mE : hp_n h ≤ hp_n hE ∧ hp_s h ≤ hp_s hE := by
    by_cases hc : (64 : Int32) ≤ a7
    · rw [if_pos hc] at hf; exact (q_X10_race_82 hf).1
    · rw [if_neg hc] at hf; exact (q_X10_race_39 hr32 hf).1
  refine ⟨by omega, fun X g K ok nmx lev hK en => ?_⟩
  refine tj_iload ok 3 dX10_race_32 rfl ?_
  refine tj_bipush (v := 64) ok dX10_race_34 (by decide) ?_
  refine tj_icmp_ge (tgt := 82) ok dX10_race_36 (by decide) (fun hc => ?_) (fun hc => ?_)
  · rw [if_pos hc] at hf
    refine tj_sub (lv' := []) [] rfl ?_
    exact (q_X10_race_82 hf).2 X g K ok nmx lev hK en
  · rw [if_neg hc] at hf
    exact (q_X10_race_39 hr32 hf).2 X g K ok nmx lev hK en
def l_X10_race_32 : Nat → Int32 → Int64 → Int32 → Int32 → AH → Option (Int32 × AH)
  | 0 => fun _ _ _ _ _ => none
  | n + 1 => fun a3 a4 a6 a7 h => b_X10_race_32 (l_X10_race_32 n) a3 a4 a6 a7 h
theorem ql_X10_race_32 {n : Nat} {a3 : Int32} {a4 : Int64} {a6 : Int32} {a7 : Int32} {h hE : AH} {v : Int32} (hf : l_X10_race_32 n a3 a4 a6 a7 h = some (v, hE)) : JD cX10_race 8 RX10 "race" (some .int) (147) 32 [(3, .inl (a3)), (4, .inr (.inl (a4))), (6, .inl (a6)), (7, .inl (a7))] [] h hE (some (.inl (v))) := by
  induction n generalizing a3 a4 a6 a7 h with
  | zero => cases hf
  | succ n ih => exact q_X10_race_32 (fun _ _ _ _ _ hf => ih hf) hf
def b_X10_race_26 (a2 : Int32) (a3 : Int32) (a4 : Int64) (h : AH) : Option (Int32 × AH) :=
  l_X10_race_32 fu_ a3 a4 a2 (0 : Int32) h
set_option maxHeartbeats 4000000 in
set_option maxRecDepth 100000 in
theorem q_X10_race_26 {a2 : Int32} {a3 : Int32} {a4 : Int64} {h hE : AH} {v : Int32} (hf : b_X10_race_26 a2 a3 a4 h = some (v, hE)) : JD cX10_race 8 RX10 "race" (some .int) (147) 26 [(2, .inl (a2)), (3, .inl (a3)), (4, .inr (.inl (a4)))] [] h hE (some (.inl (v))) := by
  unfold b_X10_race_26 at hf
  have J := ql_X10_race_32 hf
  have mE := J.1
  refine ⟨by omega, fun X g K ok nmx lev hK en => ?_⟩
  refine tj_iload_n ok 0 dX10_race_26 rfl rfl ?_
  refine tj_istore (lv' := [(2, .inl (a2)), (3, .inl (a3)), (4, .inr (.inl (a4))), (6, .inl (a2))]) ok dX10_race_27 (by decide) rfl ?_
  refine tj_iconst (v := 0) ok dX10_race_29 (by decide) ?_
  refine tj_istore (lv' := [(2, .inl (a2)), (3, .inl (a3)), (4, .inr (.inl (a4))), (6, .inl (a2)), (7, .inl ((0 : Int32)))]) ok dX10_race_30 (by decide) rfl ?_
  refine tj_sub (lv' := [(3, .inl (a3)), (4, .inr (.inl (a4))), (6, .inl (a2)), (7, .inl ((0 : Int32)))]) [1, 2, 3, 4] rfl ?_
  exact J.2 X g K ok nmx lev hK en
def b_X10_race_19 (a2 : Int32) (a3 : Int32) (a4 : Int64) (h : AH) : Option (Int32 × AH) :=
  if a3 ≤ (1 : Int32) then b_X10_race_26 a2 a3 a4 h else b_X10_race_24 h
set_option maxHeartbeats 4000000 in
set_option maxRecDepth 100000 in
theorem q_X10_race_19 {a2 : Int32} {a3 : Int32} {a4 : Int64} {h hE : AH} {v : Int32} (hf : b_X10_race_19 a2 a3 a4 h = some (v, hE)) : JD cX10_race 8 RX10 "race" (some .int) (147) 19 [(2, .inl (a2)), (3, .inl (a3)), (4, .inr (.inl (a4)))] [] h hE (some (.inl (v))) := by
  unfold b_X10_race_19 at hf
  have mE : hp_n h ≤ hp_n hE ∧ hp_s h ≤ hp_s hE := by
    by_cases hc : a3 ≤ (1 : Int32)
    · rw [if_pos hc] at hf; exact (q_X10_race_26 hf).1
    · rw [if_neg hc] at hf; exact (q_X10_race_24 hf).1
  refine ⟨by omega, fun X g K ok nmx lev hK en => ?_⟩
  refine tj_iload_n ok 1 dX10_race_19 rfl rfl ?_
  refine tj_iconst (v := 1) ok dX10_race_20 (by decide) ?_
  refine tj_icmp_le (tgt := 26) ok dX10_race_21 (by decide) (fun hc => ?_) (fun hc => ?_)
  · rw [if_pos hc] at hf
    exact (q_X10_race_26 hf).2 X g K ok nmx lev hK en
  · rw [if_neg hc] at hf
    refine tj_sub (lv' := []) [] rfl ?_
    exact (q_X10_race_24 hf).2 X g K ok nmx lev hK en
def b_X10_race_15 (a2 : Int32) (a3 : Int32) (a4 : Int64) (h : AH) : Option (Int32 × AH) :=
  if a3 < 0 then b_X10_race_24 h else b_X10_race_19 a2 a3 a4 h
set_option maxHeartbeats 4000000 in
set_option maxRecDepth 100000 in
theorem q_X10_race_15 {a2 : Int32} {a3 : Int32} {a4 : Int64} {h hE : AH} {v : Int32} (hf : b_X10_race_15 a2 a3 a4 h = some (v, hE)) : JD cX10_race 8 RX10 "race" (some .int) (147) 15 [(2, .inl (a2)), (3, .inl (a3)), (4, .inr (.inl (a4)))] [] h hE (some (.inl (v))) := by
  unfold b_X10_race_15 at hf
  have mE : hp_n h ≤ hp_n hE ∧ hp_s h ≤ hp_s hE := by
    by_cases hc : a3 < 0
    · rw [if_pos hc] at hf; exact (q_X10_race_24 hf).1
    · rw [if_neg hc] at hf; exact (q_X10_race_19 hf).1
  refine ⟨by omega, fun X g K ok nmx lev hK en => ?_⟩
  refine tj_iload_n ok 1 dX10_race_15 rfl rfl ?_
  refine tj_if_lt (tgt := 24) ok dX10_race_16 (by decide) (fun hc => ?_) (fun hc => ?_)
  · rw [if_pos hc] at hf
    refine tj_sub (lv' := []) [] rfl ?_
    exact (q_X10_race_24 hf).2 X g K ok nmx lev hK en
  · rw [if_neg hc] at hf
    exact (q_X10_race_19 hf).2 X g K ok nmx lev hK en
def b_X10_race_0 (a0 : Nat) (a1 : Int32) (a2 : Int32) (a3 : Int32) (h : AH) : Option (Int32 × AH) :=
  (ok_v h a0 10).bind fun x1 => (f_X10_programAt a0 a1 h).bind fun q2 => (ok_v q2.2 a0 10).bind fun x3 => (f_X10_racesOf a0 q2.1 q2.2).bind fun q4 => if a2 < 0 then b_X10_race_24 q4.2 else b_X10_race_15 a2 a3 q4.1 q4.2
set_option maxHeartbeats 4000000 in
set_option maxRecDepth 100000 in
theorem q_X10_race_0 {a0 : Nat} {a1 : Int32} {a2 : Int32} {a3 : Int32} {h hE : AH} {v : Int32} (hf : b_X10_race_0 a0 a1 a2 a3 h = some (v, hE)) : JD cX10_race 8 RX10 "race" (some .int) (147) 0 [(0, .inr (.inr (a0))), (1, .inl (a1)), (2, .inl (a2)), (3, .inl (a3))] [] h hE (some (.inl (v))) := by
  unfold b_X10_race_0 at hf
  obtain ⟨x1, e1, hf⟩ := bnd hf
  obtain ⟨⟨x2, h2⟩, e2, hf⟩ := bnd hf
  try dsimp only at hf
  have k2 := c_X10_programAt e2
  have m2 := (k2 default_g).1
  obtain ⟨x3, e3, hf⟩ := bnd hf
  obtain ⟨⟨x4, h4⟩, e4, hf⟩ := bnd hf
  try dsimp only at hf
  have k4 := c_X10_racesOf e4
  have m4 := (k4 default_g).1
  have mE : hp_n h4 ≤ hp_n hE ∧ hp_s h4 ≤ hp_s hE := by
    by_cases hc : a2 < 0
    · rw [if_pos hc] at hf; exact (q_X10_race_24 hf).1
    · rw [if_neg hc] at hf; exact (q_X10_race_15 hf).1
  refine ⟨by omega, fun X g K ok nmx lev hK en => ?_⟩
  refine tj_aload_n ok 0 dX10_race_0 rfl rfl ?_
  refine tj_aload_n ok 0 dX10_race_1 rfl rfl ?_
  refine tj_iload_n ok 1 dX10_race_2 rfl rfl ?_
  refine tj_callV (rest := ([.inr (.inr (a0))] : List TV).map (vl g)) (as := [.inl (a1)]) ok lev (by omega) fcX10.1 (by decide) rfl (of_if e1).1 (k2 g) (CaX.of en (by omega)) kn_X10_programAt wm_1168 wm_1169 wm_1170 (rs_ok (Nat.le_of_ble_eq_true rfl)) rfl rfl dX10_race_3 ?_
  refine tj_callV (rest := ([] : List TV).map (vl g)) (as := [.inr (.inr (x2))]) ok lev (by omega) fcX10.1 (by decide) rfl (of_if e3).1 (k4 g) (CaX.of en (by omega)) kn_X10_racesOf wm_1218 wm_1219 wm_1220 (rs_ok (Nat.le_of_ble_eq_true rfl)) rfl rfl dX10_race_6 ?_
  refine tj_lstore (lv' := [(0, .inr (.inr (a0))), (1, .inl (a1)), (2, .inl (a2)), (3, .inl (a3)), (4, .inr (.inl (x4)))]) ok dX10_race_9 (by decide) rfl ?_
  refine tj_iload_n ok 2 dX10_race_11 rfl rfl ?_
  refine tj_if_lt (tgt := 24) ok dX10_race_12 (by decide) (fun hc => ?_) (fun hc => ?_)
  · rw [if_pos hc] at hf
    refine tj_sub (lv' := []) [] rfl ?_
    exact (q_X10_race_24 hf).2 X g K ok nmx lev hK en
  · rw [if_neg hc] at hf
    refine tj_sub (lv' := [(2, .inl (a2)), (3, .inl (a3)), (4, .inr (.inl (x4)))]) [2, 3, 4] rfl ?_
    exact (q_X10_race_15 hf).2 X g K ok nmx lev hK en
def f_X10_race (a0 : Nat) (a1 : Int32) (a2 : Int32) (a3 : Int32) (h : AH) : Option (Int32 × AH) := b_X10_race_0  a0 a1 a2 a3 h
theorem c_X10_race {a0 : Nat} {a1 : Int32} {a2 : Int32} {a3 : Int32} {h hE : AH} {v : Int32} (hf : f_X10_race a0 a1 a2 a3 h = some (v, hE)) : ∀ g : GT, CM g (147) yX10_race cX10_race 8 (some .int) h [.inr (.inr (a0)), .inl (a1), .inl (a2), .inl (a3)] hE (some (.inl (v))) :=
  CM.ofJ (by decide) (by show _ ≤ 8; exact Nat.le_of_ble_eq_true rfl) (q_X10_race_0 hf)
set_option maxHeartbeats 4000000 in
set_option maxRecDepth 100000 in
theorem t_X10_race_0 {a0 : Nat} {a1 : Int32} {a2 : Int32} {a3 : Int32} {h hE : AH} {E : Nat} {x1 : Unit} (e1 : ok_v h a0 10 = some x1) (hx : ∀ g : GT, CT g 10 yX10_programAt cX10_programAt 3 (some (.object "LitmusHouse$Program")) h [.inr (.inr (a0)), .inl (a1)] hE E) : ∀ g : GT, CT g 12 yX10_race cX10_race 8 (some .int) h [.inr (.inr (a0)), .inl (a1), .inl (a2), .inl (a3)] hE E := by
  intro g
  have mE := (hx g).1
  refine CT.of (by decide) (by show _ ≤ 8; exact Nat.le_of_ble_eq_true rfl) (by omega) (fun X ok nmx lev th => ?_)
  refine tj_aload_n ok 0 dX10_race_0 rfl rfl ?_
  refine tj_aload_n ok 0 dX10_race_1 rfl rfl ?_
  refine tj_iload_n ok 1 dX10_race_2 rfl rfl ?_
  exact tj_xV (rest := ([.inr (.inr (a0))] : List TV).map (vl g)) (as := [.inl (a1)]) ok lev (by omega) fcX10.1 (by decide) rfl (of_if e1).1 (hx g) th kn_X10_programAt wm_1168 wm_1169 wm_1170 (rs_ok (Nat.le_of_ble_eq_true rfl)) rfl dX10_race_3
/-! ===== LitmusHouse.races(I)I ===== -/
def b_X10_races_0 (a0 : Nat) (a1 : Int32) (h : AH) : Option (Int32 × AH) :=
  (ok_v h a0 10).bind fun x1 => (f_X10_programAt a0 a1 h).bind fun q2 => (ok_v q2.2 a0 10).bind fun x3 => (f_X10_racesOf a0 q2.1 q2.2).bind fun q4 => (f_J13_bitCount_95d88 q4.1 q4.2).bind fun q5 => some (q5.1, q5.2)
set_option maxHeartbeats 4000000 in
set_option maxRecDepth 100000 in
theorem q_X10_races_0 {a0 : Nat} {a1 : Int32} {h hE : AH} {v : Int32} (hf : b_X10_races_0 a0 a1 h = some (v, hE)) : JD cX10_races 2 RX10 "races" (some .int) (147) 0 [(0, .inr (.inr (a0))), (1, .inl (a1))] [] h hE (some (.inl (v))) := by
  unfold b_X10_races_0 at hf
  obtain ⟨x1, e1, hf⟩ := bnd hf
  obtain ⟨⟨x2, h2⟩, e2, hf⟩ := bnd hf
  try dsimp only at hf
  have k2 := c_X10_programAt e2
  have m2 := (k2 default_g).1
  obtain ⟨x3, e3, hf⟩ := bnd hf
  obtain ⟨⟨x4, h4⟩, e4, hf⟩ := bnd hf
  try dsimp only at hf
  have k4 := c_X10_racesOf e4
  have m4 := (k4 default_g).1
  obtain ⟨⟨x5, h5⟩, e5, hf⟩ := bnd hf
  try dsimp only at hf
  have k5 := c_J13_bitCount_95d88 e5
  have m5 := (k5 default_g).1
  obtain ⟨hv, hh⟩ := Prod.mk.inj (Option.some.inj hf)
  subst hv
  subst hh
  have mE : hp_n h5 ≤ hp_n h5 ∧ hp_s h5 ≤ hp_s h5 := ⟨Nat.le_refl _, Nat.le_refl _⟩
  refine ⟨by omega, fun X g K ok nmx lev hK en => ?_⟩
  refine tj_aload_n ok 0 dX10_races_0 rfl rfl ?_
  refine tj_aload_n ok 0 dX10_races_1 rfl rfl ?_
  refine tj_iload_n ok 1 dX10_races_2 rfl rfl ?_
  refine tj_callV (rest := ([.inr (.inr (a0))] : List TV).map (vl g)) (as := [.inl (a1)]) ok lev (by omega) fcX10.1 (by decide) rfl (of_if e1).1 (k2 g) (CaX.of en (by omega)) kn_X10_programAt wm_1168 wm_1169 wm_1170 (rs_ok (Nat.le_of_ble_eq_true rfl)) rfl rfl dX10_races_3 ?_
  refine tj_callV (rest := ([] : List TV).map (vl g)) (as := [.inr (.inr (x2))]) ok lev (by omega) fcX10.1 (by decide) rfl (of_if e3).1 (k4 g) (CaX.of en (by omega)) kn_X10_racesOf wm_1218 wm_1219 wm_1220 (rs_ok (Nat.le_of_ble_eq_true rfl)) rfl rfl dX10_races_6 ?_
  refine tj_callS (rest := ([] : List TV).map (vl g)) (as := [.inr (.inl (x4))]) ok lev (by omega) (k5 g) (CaX.of en (by omega)) kn_J13_bitCount_95d88 wm_1222 wm_1223 (rs_ok (Nat.le_of_ble_eq_true rfl)) rfl rfl dX10_races_9 ?_
  exact tj_ireturn ok en dX10_races_12
def f_X10_races (a0 : Nat) (a1 : Int32) (h : AH) : Option (Int32 × AH) := b_X10_races_0  a0 a1 h
theorem c_X10_races {a0 : Nat} {a1 : Int32} {h hE : AH} {v : Int32} (hf : f_X10_races a0 a1 h = some (v, hE)) : ∀ g : GT, CM g (147) yX10_races cX10_races 2 (some .int) h [.inr (.inr (a0)), .inl (a1)] hE (some (.inl (v))) :=
  CM.ofJ (by decide) (by show _ ≤ 2; exact Nat.le_of_ble_eq_true rfl) (q_X10_races_0 hf)
set_option maxHeartbeats 4000000 in
set_option maxRecDepth 100000 in
theorem t_X10_races_0 {a0 : Nat} {a1 : Int32} {h hE : AH} {E : Nat} {x1 : Unit} (e1 : ok_v h a0 10 = some x1) (hx : ∀ g : GT, CT g 10 yX10_programAt cX10_programAt 3 (some (.object "LitmusHouse$Program")) h [.inr (.inr (a0)), .inl (a1)] hE E) : ∀ g : GT, CT g 12 yX10_races cX10_races 2 (some .int) h [.inr (.inr (a0)), .inl (a1)] hE E := by
  intro g
  have mE := (hx g).1
  refine CT.of (by decide) (by show _ ≤ 2; exact Nat.le_of_ble_eq_true rfl) (by omega) (fun X ok nmx lev th => ?_)
  refine tj_aload_n ok 0 dX10_races_0 rfl rfl ?_
  refine tj_aload_n ok 0 dX10_races_1 rfl rfl ?_
  refine tj_iload_n ok 1 dX10_races_2 rfl rfl ?_
  exact tj_xV (rest := ([.inr (.inr (a0))] : List TV).map (vl g)) (as := [.inl (a1)]) ok lev (by omega) fcX10.1 (by decide) rfl (of_if e1).1 (hx g) th kn_X10_programAt wm_1168 wm_1169 wm_1170 (rs_ok (Nat.le_of_ble_eq_true rfl)) rfl dX10_races_3
/-! ===== LitmusHouse.same(II)Z ===== -/
def b_X10_same_0 (a0 : Nat) (a1 : Int32) (a2 : Int32) (h : AH) : Option (Int32 × AH) :=
  (f_X10_demandPlace a1 h).bind fun h1 => (f_X10_demandPlace a2 h1).bind fun h2 => (g_r h2 a0 10 6).bind fun x3 => (ok_v h2 a0 10).bind fun x4 => (f_X10_programAt a0 a1 h2).bind fun q5 => (ok_v q5.2 a0 10).bind fun x6 => (f_X10_programAt a0 a2 q5.2).bind fun q7 => (ok_v q7.2 x3 1).bind fun x8 => (f_X1_holds x3 q5.1 q7.1 q7.2).bind fun q9 => ok_z q9.1 q9.2
set_option maxHeartbeats 4000000 in
set_option maxRecDepth 100000 in
theorem q_X10_same_0 {a0 : Nat} {a1 : Int32} {a2 : Int32} {h hE : AH} {v : Int32} (hf : b_X10_same_0 a0 a1 a2 h = some (v, hE)) : JD cX10_same 3 RX10 "same" (some .boolean) (8) 0 [(0, .inr (.inr (a0))), (1, .inl (a1)), (2, .inl (a2))] [] h hE (some (.inl (v))) := by
  unfold b_X10_same_0 at hf
  obtain ⟨h1, e1, hf⟩ := bnd hf
  have k1 := c_X10_demandPlace e1
  have m1 := (k1 default_g).1
  obtain ⟨h2, e2, hf⟩ := bnd hf
  have k2 := c_X10_demandPlace e2
  have m2 := (k2 default_g).1
  obtain ⟨x3, e3, hf⟩ := bnd hf
  obtain ⟨x4, e4, hf⟩ := bnd hf
  obtain ⟨⟨x5, h5⟩, e5, hf⟩ := bnd hf
  try dsimp only at hf
  have k5 := c_X10_programAt e5
  have m5 := (k5 default_g).1
  obtain ⟨x6, e6, hf⟩ := bnd hf
  obtain ⟨⟨x7, h7⟩, e7, hf⟩ := bnd hf
  try dsimp only at hf
  have k7 := c_X10_programAt e7
  have m7 := (k7 default_g).1
  obtain ⟨x8, e8, hf⟩ := bnd hf
  obtain ⟨⟨x9, h9⟩, e9, hf⟩ := bnd hf
  try dsimp only at hf
  have k9 := c_X1_holds e9
  have m9 := (k9 default_g).1
  have mE : hp_n h9 ≤ hp_n hE ∧ hp_s h9 ≤ hp_s hE := by obtain ⟨-, q⟩ := of_if hf; cases q; exact ⟨Nat.le_refl _, Nat.le_refl _⟩
  refine ⟨by omega, fun X g K ok nmx lev hK en => ?_⟩
  refine tj_iload_n ok 1 dX10_same_0 rfl rfl ?_
  refine tj_callS (rest := ([] : List TV).map (vl g)) (as := [.inl (a1)]) ok lev (by omega) (k1 g) (CaX.of en (by omega)) kn_X10_demandPlace wm_1159 wm_1160 (rs_ok (Nat.le_of_ble_eq_true rfl)) rfl rfl dX10_same_1 ?_
  refine tj_iload_n ok 2 dX10_same_4 rfl rfl ?_
  refine tj_callS (rest := ([] : List TV).map (vl g)) (as := [.inl (a2)]) ok lev (by omega) (k2 g) (CaX.of en (by omega)) kn_X10_demandPlace wm_1159 wm_1160 (rs_ok (Nat.le_of_ble_eq_true rfl)) rfl rfl dX10_same_5 ?_
  refine tj_aload_n ok 0 dX10_same_8 rfl rfl ?_
  refine tj_getR (k := 6) ok fcX10 (by decide) wm_216 rfl (Or.inl ⟨_, rfl⟩) dX10_same_9 e3 ?_
  refine tj_aload_n ok 0 dX10_same_12 rfl rfl ?_
  refine tj_iload_n ok 1 dX10_same_13 rfl rfl ?_
  refine tj_callV (rest := ([.inr (.inr (x3))] : List TV).map (vl g)) (as := [.inl (a1)]) ok lev (by omega) fcX10.1 (by decide) rfl (of_if e4).1 (k5 g) (CaX.of en (by omega)) kn_X10_programAt wm_1168 wm_1169 wm_1170 (rs_ok (Nat.le_of_ble_eq_true rfl)) rfl rfl dX10_same_14 ?_
  refine tj_aload_n ok 0 dX10_same_17 rfl rfl ?_
  refine tj_iload_n ok 2 dX10_same_18 rfl rfl ?_
  refine tj_callV (rest := ([.inr (.inr (x5)), .inr (.inr (x3))] : List TV).map (vl g)) (as := [.inl (a2)]) ok lev (by omega) fcX10.1 (by decide) rfl (of_if e6).1 (k7 g) (CaX.of en (by omega)) kn_X10_programAt wm_1168 wm_1169 wm_1170 (rs_ok (Nat.le_of_ble_eq_true rfl)) rfl rfl dX10_same_19 ?_
  refine tj_callV (rest := ([] : List TV).map (vl g)) (as := [.inr (.inr (x5)), .inr (.inr (x7))]) ok lev (by omega) fcX1.1 (by decide) rfl (of_if e8).1 (k9 g) (CaX.of en (by omega)) kn_X1_holds wm_1225 wm_1226 wm_1227 (rs_ok (Nat.le_of_ble_eq_true rfl)) rfl rfl dX10_same_22 ?_
  exact tj_zreturn ok hf en dX10_same_25
def f_X10_same (a0 : Nat) (a1 : Int32) (a2 : Int32) (h : AH) : Option (Int32 × AH) := b_X10_same_0  a0 a1 a2 h
theorem c_X10_same {a0 : Nat} {a1 : Int32} {a2 : Int32} {h hE : AH} {v : Int32} (hf : f_X10_same a0 a1 a2 h = some (v, hE)) : ∀ g : GT, CM g (8) yX10_same cX10_same 3 (some .boolean) h [.inr (.inr (a0)), .inl (a1), .inl (a2)] hE (some (.inl (v))) :=
  CM.ofJ (by decide) (by show _ ≤ 3; exact Nat.le_of_ble_eq_true rfl) (q_X10_same_0 hf)
set_option maxHeartbeats 4000000 in
set_option maxRecDepth 100000 in
theorem t_X10_same_0 {a0 : Nat} {a1 : Int32} {a2 : Int32} {h hE : AH} {E : Nat} (hx : ∀ g : GT, CT g 8 yX10_demandPlace cX10_demandPlace 1 none h [.inl (a1)] hE E) : ∀ g : GT, CT g 12 yX10_same cX10_same 3 (some .boolean) h [.inr (.inr (a0)), .inl (a1), .inl (a2)] hE E := by
  intro g
  have mE := (hx g).1
  refine CT.of (by decide) (by show _ ≤ 3; exact Nat.le_of_ble_eq_true rfl) (by omega) (fun X ok nmx lev th => ?_)
  refine tj_iload_n ok 1 dX10_same_0 rfl rfl ?_
  exact tj_xS (rest := ([] : List TV).map (vl g)) (as := [.inl (a1)]) ok lev (by omega) (hx g) th kn_X10_demandPlace wm_1159 wm_1160 (rs_ok (Nat.le_of_ble_eq_true rfl)) rfl dX10_same_1
set_option maxHeartbeats 4000000 in
set_option maxRecDepth 100000 in
theorem t_X10_same_1 {a0 : Nat} {a1 : Int32} {a2 : Int32} {h hE : AH} {E : Nat} {h1 : AH} (e1 : f_X10_demandPlace a1 h = some h1) (hx : ∀ g : GT, CT g 8 yX10_demandPlace cX10_demandPlace 1 none h1 [.inl (a2)] hE E) : ∀ g : GT, CT g 12 yX10_same cX10_same 3 (some .boolean) h [.inr (.inr (a0)), .inl (a1), .inl (a2)] hE E := by
  intro g
  have k1 := c_X10_demandPlace e1
  have m1 := (k1 default_g).1
  have mE := (hx g).1
  refine CT.of (by decide) (by show _ ≤ 3; exact Nat.le_of_ble_eq_true rfl) (by omega) (fun X ok nmx lev th => ?_)
  refine tj_iload_n ok 1 dX10_same_0 rfl rfl ?_
  refine tj_callS (rest := ([] : List TV).map (vl g)) (as := [.inl (a1)]) ok lev (by omega) (k1 g) (CaX.ofT th (by omega)) kn_X10_demandPlace wm_1159 wm_1160 (rs_ok (Nat.le_of_ble_eq_true rfl)) rfl rfl dX10_same_1 ?_
  refine tj_iload_n ok 2 dX10_same_4 rfl rfl ?_
  exact tj_xS (rest := ([] : List TV).map (vl g)) (as := [.inl (a2)]) ok lev (by omega) (hx g) th kn_X10_demandPlace wm_1159 wm_1160 (rs_ok (Nat.le_of_ble_eq_true rfl)) rfl dX10_same_5
set_option maxHeartbeats 4000000 in
set_option maxRecDepth 100000 in
theorem t_X10_same_2 {a0 : Nat} {a1 : Int32} {a2 : Int32} {h hE : AH} {E : Nat} {h1 : AH} (e1 : f_X10_demandPlace a1 h = some h1) {h2 : AH} (e2 : f_X10_demandPlace a2 h1 = some h2) {x3 : Nat} (e3 : g_r h2 a0 10 6 = some x3) {x4 : Unit} (e4 : ok_v h2 a0 10 = some x4) (hx : ∀ g : GT, CT g 10 yX10_programAt cX10_programAt 3 (some (.object "LitmusHouse$Program")) h2 [.inr (.inr (a0)), .inl (a1)] hE E) : ∀ g : GT, CT g 12 yX10_same cX10_same 3 (some .boolean) h [.inr (.inr (a0)), .inl (a1), .inl (a2)] hE E := by
  intro g
  have k1 := c_X10_demandPlace e1
  have m1 := (k1 default_g).1
  have k2 := c_X10_demandPlace e2
  have m2 := (k2 default_g).1
  have mE := (hx g).1
  refine CT.of (by decide) (by show _ ≤ 3; exact Nat.le_of_ble_eq_true rfl) (by omega) (fun X ok nmx lev th => ?_)
  refine tj_iload_n ok 1 dX10_same_0 rfl rfl ?_
  refine tj_callS (rest := ([] : List TV).map (vl g)) (as := [.inl (a1)]) ok lev (by omega) (k1 g) (CaX.ofT th (by omega)) kn_X10_demandPlace wm_1159 wm_1160 (rs_ok (Nat.le_of_ble_eq_true rfl)) rfl rfl dX10_same_1 ?_
  refine tj_iload_n ok 2 dX10_same_4 rfl rfl ?_
  refine tj_callS (rest := ([] : List TV).map (vl g)) (as := [.inl (a2)]) ok lev (by omega) (k2 g) (CaX.ofT th (by omega)) kn_X10_demandPlace wm_1159 wm_1160 (rs_ok (Nat.le_of_ble_eq_true rfl)) rfl rfl dX10_same_5 ?_
  refine tj_aload_n ok 0 dX10_same_8 rfl rfl ?_
  refine tj_getR (k := 6) ok fcX10 (by decide) wm_216 rfl (Or.inl ⟨_, rfl⟩) dX10_same_9 e3 ?_
  refine tj_aload_n ok 0 dX10_same_12 rfl rfl ?_
  refine tj_iload_n ok 1 dX10_same_13 rfl rfl ?_
  exact tj_xV (rest := ([.inr (.inr (x3))] : List TV).map (vl g)) (as := [.inl (a1)]) ok lev (by omega) fcX10.1 (by decide) rfl (of_if e4).1 (hx g) th kn_X10_programAt wm_1168 wm_1169 wm_1170 (rs_ok (Nat.le_of_ble_eq_true rfl)) rfl dX10_same_14
set_option maxHeartbeats 4000000 in
set_option maxRecDepth 100000 in
theorem t_X10_same_3 {a0 : Nat} {a1 : Int32} {a2 : Int32} {h hE : AH} {E : Nat} {h1 : AH} (e1 : f_X10_demandPlace a1 h = some h1) {h2 : AH} (e2 : f_X10_demandPlace a2 h1 = some h2) {x3 : Nat} (e3 : g_r h2 a0 10 6 = some x3) {x4 : Unit} (e4 : ok_v h2 a0 10 = some x4) {x5 : Nat} {h5 : AH} (e5 : f_X10_programAt a0 a1 h2 = some (x5, h5)) {x6 : Unit} (e6 : ok_v h5 a0 10 = some x6) (hx : ∀ g : GT, CT g 10 yX10_programAt cX10_programAt 3 (some (.object "LitmusHouse$Program")) h5 [.inr (.inr (a0)), .inl (a2)] hE E) : ∀ g : GT, CT g 12 yX10_same cX10_same 3 (some .boolean) h [.inr (.inr (a0)), .inl (a1), .inl (a2)] hE E := by
  intro g
  have k1 := c_X10_demandPlace e1
  have m1 := (k1 default_g).1
  have k2 := c_X10_demandPlace e2
  have m2 := (k2 default_g).1
  have k5 := c_X10_programAt e5
  have m5 := (k5 default_g).1
  have mE := (hx g).1
  refine CT.of (by decide) (by show _ ≤ 3; exact Nat.le_of_ble_eq_true rfl) (by omega) (fun X ok nmx lev th => ?_)
  refine tj_iload_n ok 1 dX10_same_0 rfl rfl ?_
  refine tj_callS (rest := ([] : List TV).map (vl g)) (as := [.inl (a1)]) ok lev (by omega) (k1 g) (CaX.ofT th (by omega)) kn_X10_demandPlace wm_1159 wm_1160 (rs_ok (Nat.le_of_ble_eq_true rfl)) rfl rfl dX10_same_1 ?_
  refine tj_iload_n ok 2 dX10_same_4 rfl rfl ?_
  refine tj_callS (rest := ([] : List TV).map (vl g)) (as := [.inl (a2)]) ok lev (by omega) (k2 g) (CaX.ofT th (by omega)) kn_X10_demandPlace wm_1159 wm_1160 (rs_ok (Nat.le_of_ble_eq_true rfl)) rfl rfl dX10_same_5 ?_
  refine tj_aload_n ok 0 dX10_same_8 rfl rfl ?_
  refine tj_getR (k := 6) ok fcX10 (by decide) wm_216 rfl (Or.inl ⟨_, rfl⟩) dX10_same_9 e3 ?_
  refine tj_aload_n ok 0 dX10_same_12 rfl rfl ?_
  refine tj_iload_n ok 1 dX10_same_13 rfl rfl ?_
  refine tj_callV (rest := ([.inr (.inr (x3))] : List TV).map (vl g)) (as := [.inl (a1)]) ok lev (by omega) fcX10.1 (by decide) rfl (of_if e4).1 (k5 g) (CaX.ofT th (by omega)) kn_X10_programAt wm_1168 wm_1169 wm_1170 (rs_ok (Nat.le_of_ble_eq_true rfl)) rfl rfl dX10_same_14 ?_
  refine tj_aload_n ok 0 dX10_same_17 rfl rfl ?_
  refine tj_iload_n ok 2 dX10_same_18 rfl rfl ?_
  exact tj_xV (rest := ([.inr (.inr (x5)), .inr (.inr (x3))] : List TV).map (vl g)) (as := [.inl (a2)]) ok lev (by omega) fcX10.1 (by decide) rfl (of_if e6).1 (hx g) th kn_X10_programAt wm_1168 wm_1169 wm_1170 (rs_ok (Nat.le_of_ble_eq_true rfl)) rfl dX10_same_19
/-! ===== LitmusHouse.stuck(III)I ===== -/
def b_X10_stuck_47 (s0 : Int32) (h : AH) : Option (Int32 × AH) :=
  some (s0, h)
set_option maxHeartbeats 4000000 in
set_option maxRecDepth 100000 in
theorem q_X10_stuck_47 {s0 : Int32} {h hE : AH} {v : Int32} (hf : b_X10_stuck_47 s0 h = some (v, hE)) : JD cX10_stuck 6 RX10 "stuck" (some .int) (147) 47 [] [.inl (s0)] h hE (some (.inl (v))) := by
  unfold b_X10_stuck_47 at hf
  obtain ⟨hv, hh⟩ := Prod.mk.inj (Option.some.inj hf)
  subst hv
  subst hh
  have mE : hp_n h ≤ hp_n h ∧ hp_s h ≤ hp_s h := ⟨Nat.le_refl _, Nat.le_refl _⟩
  refine ⟨by omega, fun X g K ok nmx lev hK en => ?_⟩
  exact tj_ireturn ok en dX10_stuck_47
def b_X10_stuck_46  (h : AH) : Option (Int32 × AH) :=
  b_X10_stuck_47 (-1 : Int32) h
set_option maxHeartbeats 4000000 in
set_option maxRecDepth 100000 in
theorem q_X10_stuck_46 {h hE : AH} {v : Int32} (hf : b_X10_stuck_46  h = some (v, hE)) : JD cX10_stuck 6 RX10 "stuck" (some .int) (147) 46 [] [] h hE (some (.inl (v))) := by
  unfold b_X10_stuck_46 at hf
  have J := q_X10_stuck_47 hf
  have mE := J.1
  refine ⟨by omega, fun X g K ok nmx lev hK en => ?_⟩
  refine tj_iconst (v := -1) ok dX10_stuck_46 (by decide) ?_
  exact J.2 X g K ok nmx lev hK en
def b_X10_stuck_36 (a3 : Int32) (a5 : Nat) (h : AH) : Option (Int32 × AH) :=
  (l_i h a5 a3).bind fun x1 => (f_X3_stuckIn x1 h).bind fun q2 => b_X10_stuck_47 q2.1 q2.2
set_option maxHeartbeats 4000000 in
set_option maxRecDepth 100000 in
theorem q_X10_stuck_36 {a3 : Int32} {a5 : Nat} {h hE : AH} {v : Int32} (hf : b_X10_stuck_36 a3 a5 h = some (v, hE)) : JD cX10_stuck 6 RX10 "stuck" (some .int) (147) 36 [(3, .inl (a3)), (5, .inr (.inr (a5)))] [] h hE (some (.inl (v))) := by
  unfold b_X10_stuck_36 at hf
  obtain ⟨x1, e1, hf⟩ := bnd hf
  obtain ⟨⟨x2, h2⟩, e2, hf⟩ := bnd hf
  try dsimp only at hf
  have k2 := c_X3_stuckIn e2
  have m2 := (k2 default_g).1
  have J := q_X10_stuck_47 hf
  have mE := J.1
  refine ⟨by omega, fun X g K ok nmx lev hK en => ?_⟩
  refine tj_aload ok 1 dX10_stuck_36 rfl ?_
  refine tj_iload_n ok 0 dX10_stuck_38 rfl rfl ?_
  refine tj_iaload ok dX10_stuck_39 e1 ?_
  refine tj_callS (rest := ([] : List TV).map (vl g)) (as := [.inl (x1)]) ok lev (by omega) (k2 g) (CaX.of en (by omega)) kn_X3_stuckIn wm_1229 wm_1230 (rs_ok (Nat.le_of_ble_eq_true rfl)) rfl rfl dX10_stuck_40 ?_
  refine tj_goto (tgt := 47) ok dX10_stuck_43 (by decide) ?_
  refine tj_sub (lv' := []) [] rfl ?_
  exact J.2 X g K ok nmx lev hK en
def b_X10_stuck_29 (a3 : Int32) (a5 : Nat) (h : AH) : Option (Int32 × AH) :=
  (al_n h a5).bind fun x1 => if x1 ≤ a3 then b_X10_stuck_46 h else b_X10_stuck_36 a3 a5 h
set_option maxHeartbeats 4000000 in
set_option maxRecDepth 100000 in
theorem q_X10_stuck_29 {a3 : Int32} {a5 : Nat} {h hE : AH} {v : Int32} (hf : b_X10_stuck_29 a3 a5 h = some (v, hE)) : JD cX10_stuck 6 RX10 "stuck" (some .int) (147) 29 [(3, .inl (a3)), (5, .inr (.inr (a5)))] [] h hE (some (.inl (v))) := by
  unfold b_X10_stuck_29 at hf
  obtain ⟨x1, e1, hf⟩ := bnd hf
  have mE : hp_n h ≤ hp_n hE ∧ hp_s h ≤ hp_s hE := by
    by_cases hc : x1 ≤ a3
    · rw [if_pos hc] at hf; exact (q_X10_stuck_46 hf).1
    · rw [if_neg hc] at hf; exact (q_X10_stuck_36 hf).1
  refine ⟨by omega, fun X g K ok nmx lev hK en => ?_⟩
  refine tj_iload_n ok 0 dX10_stuck_29 rfl rfl ?_
  refine tj_aload ok 1 dX10_stuck_30 rfl ?_
  refine tj_alen ok dX10_stuck_32 e1 ?_
  refine tj_icmp_ge (tgt := 46) ok dX10_stuck_33 (by decide) (fun hc => ?_) (fun hc => ?_)
  · rw [if_pos hc] at hf
    refine tj_sub (lv' := []) [] rfl ?_
    exact (q_X10_stuck_46 hf).2 X g K ok nmx lev hK en
  · rw [if_neg hc] at hf
    exact (q_X10_stuck_36 hf).2 X g K ok nmx lev hK en
def b_X10_stuck_16 (a0 : Nat) (a2 : Int32) (a3 : Int32) (a4 : Nat) (h : AH) : Option (Int32 × AH) :=
  (ok_v h a0 10).bind fun x1 => (f_X10_outcomesOf a0 a4 a2 h).bind fun q2 => if a3 < 0 then b_X10_stuck_46 q2.2 else b_X10_stuck_29 a3 q2.1 q2.2
set_option maxHeartbeats 4000000 in
set_option maxRecDepth 100000 in
theorem q_X10_stuck_16 {a0 : Nat} {a2 : Int32} {a3 : Int32} {a4 : Nat} {h hE : AH} {v : Int32} (hf : b_X10_stuck_16 a0 a2 a3 a4 h = some (v, hE)) : JD cX10_stuck 6 RX10 "stuck" (some .int) (147) 16 [(0, .inr (.inr (a0))), (2, .inl (a2)), (3, .inl (a3)), (4, .inr (.inr (a4)))] [] h hE (some (.inl (v))) := by
  unfold b_X10_stuck_16 at hf
  obtain ⟨x1, e1, hf⟩ := bnd hf
  obtain ⟨⟨x2, h2⟩, e2, hf⟩ := bnd hf
  try dsimp only at hf
  have k2 := c_X10_outcomesOf e2
  have m2 := (k2 default_g).1
  have mE : hp_n h2 ≤ hp_n hE ∧ hp_s h2 ≤ hp_s hE := by
    by_cases hc : a3 < 0
    · rw [if_pos hc] at hf; exact (q_X10_stuck_46 hf).1
    · rw [if_neg hc] at hf; exact (q_X10_stuck_29 hf).1
  refine ⟨by omega, fun X g K ok nmx lev hK en => ?_⟩
  refine tj_aload_n ok 0 dX10_stuck_16 rfl rfl ?_
  refine tj_aload ok 3 dX10_stuck_17 rfl ?_
  refine tj_iload_n ok 1 dX10_stuck_19 rfl rfl ?_
  refine tj_callV (rest := ([] : List TV).map (vl g)) (as := [.inr (.inr (a4)), .inl (a2)]) ok lev (by omega) fcX10.1 (by decide) rfl (of_if e1).1 (k2 g) (CaX.of en (by omega)) kn_X10_outcomesOf wm_1174 wm_1175 wm_1176 (rs_ok (Nat.le_of_ble_eq_true rfl)) rfl rfl dX10_stuck_20 ?_
  refine tj_astore (lv' := [(0, .inr (.inr (a0))), (2, .inl (a2)), (3, .inl (a3)), (4, .inr (.inr (a4))), (5, .inr (.inr (x2)))]) ok dX10_stuck_23 (by decide) rfl ?_
  refine tj_iload_n ok 2 dX10_stuck_25 rfl rfl ?_
  refine tj_if_lt (tgt := 46) ok dX10_stuck_26 (by decide) (fun hc => ?_) (fun hc => ?_)
  · rw [if_pos hc] at hf
    refine tj_sub (lv' := []) [] rfl ?_
    exact (q_X10_stuck_46 hf).2 X g K ok nmx lev hK en
  · rw [if_neg hc] at hf
    refine tj_sub (lv' := [(3, .inl (a3)), (5, .inr (.inr (x2)))]) [2, 4] rfl ?_
    exact (q_X10_stuck_29 hf).2 X g K ok nmx lev hK en
def b_X10_stuck_14  (h : AH) : Option (Int32 × AH) :=
  some ((-1 : Int32), h)
set_option maxHeartbeats 4000000 in
set_option maxRecDepth 100000 in
theorem q_X10_stuck_14 {h hE : AH} {v : Int32} (hf : b_X10_stuck_14  h = some (v, hE)) : JD cX10_stuck 6 RX10 "stuck" (some .int) (147) 14 [] [] h hE (some (.inl (v))) := by
  unfold b_X10_stuck_14 at hf
  obtain ⟨hv, hh⟩ := Prod.mk.inj (Option.some.inj hf)
  subst hv
  subst hh
  have mE : hp_n h ≤ hp_n h ∧ hp_s h ≤ hp_s h := ⟨Nat.le_refl _, Nat.le_refl _⟩
  refine ⟨by omega, fun X g K ok nmx lev hK en => ?_⟩
  refine tj_iconst (v := -1) ok dX10_stuck_14 (by decide) ?_
  exact tj_ireturn ok en dX10_stuck_15
def b_X10_stuck_0 (a0 : Nat) (a1 : Int32) (a2 : Int32) (a3 : Int32) (h : AH) : Option (Int32 × AH) :=
  (ok_v h a0 10).bind fun x1 => (f_X10_programAt a0 a1 h).bind fun q2 => (f_X10_isOrder a2 q2.2).bind fun q3 => if q3.1 = 0 then b_X10_stuck_14 q3.2 else b_X10_stuck_16 a0 a2 a3 q2.1 q3.2
set_option maxHeartbeats 4000000 in
set_option maxRecDepth 100000 in
theorem q_X10_stuck_0 {a0 : Nat} {a1 : Int32} {a2 : Int32} {a3 : Int32} {h hE : AH} {v : Int32} (hf : b_X10_stuck_0 a0 a1 a2 a3 h = some (v, hE)) : JD cX10_stuck 6 RX10 "stuck" (some .int) (147) 0 [(0, .inr (.inr (a0))), (1, .inl (a1)), (2, .inl (a2)), (3, .inl (a3))] [] h hE (some (.inl (v))) := by
  unfold b_X10_stuck_0 at hf
  obtain ⟨x1, e1, hf⟩ := bnd hf
  obtain ⟨⟨x2, h2⟩, e2, hf⟩ := bnd hf
  try dsimp only at hf
  have k2 := c_X10_programAt e2
  have m2 := (k2 default_g).1
  obtain ⟨⟨x3, h3⟩, e3, hf⟩ := bnd hf
  try dsimp only at hf
  have k3 := c_X10_isOrder e3
  have m3 := (k3 default_g).1
  have mE : hp_n h3 ≤ hp_n hE ∧ hp_s h3 ≤ hp_s hE := by
    by_cases hc : x3 = 0
    · rw [if_pos hc] at hf; exact (q_X10_stuck_14 hf).1
    · rw [if_neg hc] at hf; exact (q_X10_stuck_16 hf).1
  refine ⟨by omega, fun X g K ok nmx lev hK en => ?_⟩
  refine tj_aload_n ok 0 dX10_stuck_0 rfl rfl ?_
  refine tj_iload_n ok 1 dX10_stuck_1 rfl rfl ?_
  refine tj_callV (rest := ([] : List TV).map (vl g)) (as := [.inl (a1)]) ok lev (by omega) fcX10.1 (by decide) rfl (of_if e1).1 (k2 g) (CaX.of en (by omega)) kn_X10_programAt wm_1168 wm_1169 wm_1170 (rs_ok (Nat.le_of_ble_eq_true rfl)) rfl rfl dX10_stuck_2 ?_
  refine tj_astore (lv' := [(0, .inr (.inr (a0))), (1, .inl (a1)), (2, .inl (a2)), (3, .inl (a3)), (4, .inr (.inr (x2)))]) ok dX10_stuck_5 (by decide) rfl ?_
  refine tj_iload_n ok 2 dX10_stuck_7 rfl rfl ?_
  refine tj_callS (rest := ([] : List TV).map (vl g)) (as := [.inl (a2)]) ok lev (by omega) (k3 g) (CaX.of en (by omega)) kn_X10_isOrder wm_1177 wm_1178 (rs_ok (Nat.le_of_ble_eq_true rfl)) rfl rfl dX10_stuck_8 ?_
  refine tj_if_ne (tgt := 16) ok dX10_stuck_11 (by decide) (fun hc => ?_) (fun hc => ?_)
  · rw [if_neg hc] at hf
    refine tj_sub (lv' := [(0, .inr (.inr (a0))), (2, .inl (a2)), (3, .inl (a3)), (4, .inr (.inr (x2)))]) [0, 2, 3, 4] rfl ?_
    exact (q_X10_stuck_16 hf).2 X g K ok nmx lev hK en
  · rw [if_pos hc] at hf
    refine tj_sub (lv' := []) [] rfl ?_
    exact (q_X10_stuck_14 hf).2 X g K ok nmx lev hK en
def f_X10_stuck (a0 : Nat) (a1 : Int32) (a2 : Int32) (a3 : Int32) (h : AH) : Option (Int32 × AH) := b_X10_stuck_0  a0 a1 a2 a3 h
theorem c_X10_stuck {a0 : Nat} {a1 : Int32} {a2 : Int32} {a3 : Int32} {h hE : AH} {v : Int32} (hf : f_X10_stuck a0 a1 a2 a3 h = some (v, hE)) : ∀ g : GT, CM g (147) yX10_stuck cX10_stuck 6 (some .int) h [.inr (.inr (a0)), .inl (a1), .inl (a2), .inl (a3)] hE (some (.inl (v))) :=
  CM.ofJ (by decide) (by show _ ≤ 6; exact Nat.le_of_ble_eq_true rfl) (q_X10_stuck_0 hf)
set_option maxHeartbeats 4000000 in
set_option maxRecDepth 100000 in
theorem t_X10_stuck_0 {a0 : Nat} {a1 : Int32} {a2 : Int32} {a3 : Int32} {h hE : AH} {E : Nat} {x1 : Unit} (e1 : ok_v h a0 10 = some x1) (hx : ∀ g : GT, CT g 10 yX10_programAt cX10_programAt 3 (some (.object "LitmusHouse$Program")) h [.inr (.inr (a0)), .inl (a1)] hE E) : ∀ g : GT, CT g 12 yX10_stuck cX10_stuck 6 (some .int) h [.inr (.inr (a0)), .inl (a1), .inl (a2), .inl (a3)] hE E := by
  intro g
  have mE := (hx g).1
  refine CT.of (by decide) (by show _ ≤ 6; exact Nat.le_of_ble_eq_true rfl) (by omega) (fun X ok nmx lev th => ?_)
  refine tj_aload_n ok 0 dX10_stuck_0 rfl rfl ?_
  refine tj_iload_n ok 1 dX10_stuck_1 rfl rfl ?_
  exact tj_xV (rest := ([] : List TV).map (vl g)) (as := [.inl (a1)]) ok lev (by omega) fcX10.1 (by decide) rfl (of_if e1).1 (hx g) th kn_X10_programAt wm_1168 wm_1169 wm_1170 (rs_ok (Nat.le_of_ble_eq_true rfl)) rfl dX10_stuck_2
/-! ===== LitmusHouse.value(IIII)I ===== -/
def b_X10_value_25  (h : AH) : Option (Int32 × AH) :=
  some ((-1 : Int32), h)
set_option maxHeartbeats 4000000 in
set_option maxRecDepth 100000 in
theorem q_X10_value_25 {h hE : AH} {v : Int32} (hf : b_X10_value_25  h = some (v, hE)) : JD cX10_value 7 RX10 "value" (some .int) (147) 25 [] [] h hE (some (.inl (v))) := by
  unfold b_X10_value_25 at hf
  obtain ⟨hv, hh⟩ := Prod.mk.inj (Option.some.inj hf)
  subst hv
  subst hh
  have mE : hp_n h ≤ hp_n h ∧ hp_s h ≤ hp_s h := ⟨Nat.le_refl _, Nat.le_refl _⟩
  refine ⟨by omega, fun X g K ok nmx lev hK en => ?_⟩
  refine tj_iconst (v := -1) ok dX10_value_25 (by decide) ?_
  exact tj_ireturn ok en dX10_value_26
def b_X10_value_60 (s0 : Int32) (h : AH) : Option (Int32 × AH) :=
  some (s0, h)
set_option maxHeartbeats 4000000 in
set_option maxRecDepth 100000 in
theorem q_X10_value_60 {s0 : Int32} {h hE : AH} {v : Int32} (hf : b_X10_value_60 s0 h = some (v, hE)) : JD cX10_value 7 RX10 "value" (some .int) (147) 60 [] [.inl (s0)] h hE (some (.inl (v))) := by
  unfold b_X10_value_60 at hf
  obtain ⟨hv, hh⟩ := Prod.mk.inj (Option.some.inj hf)
  subst hv
  subst hh
  have mE : hp_n h ≤ hp_n h ∧ hp_s h ≤ hp_s h := ⟨Nat.le_refl _, Nat.le_refl _⟩
  refine ⟨by omega, fun X g K ok nmx lev hK en => ?_⟩
  exact tj_ireturn ok en dX10_value_60
def b_X10_value_59  (h : AH) : Option (Int32 × AH) :=
  b_X10_value_60 (-1 : Int32) h
set_option maxHeartbeats 4000000 in
set_option maxRecDepth 100000 in
theorem q_X10_value_59 {h hE : AH} {v : Int32} (hf : b_X10_value_59  h = some (v, hE)) : JD cX10_value 7 RX10 "value" (some .int) (147) 59 [] [] h hE (some (.inl (v))) := by
  unfold b_X10_value_59 at hf
  have J := q_X10_value_60 hf
  have mE := J.1
  refine ⟨by omega, fun X g K ok nmx lev hK en => ?_⟩
  refine tj_iconst (v := -1) ok dX10_value_59 (by decide) ?_
  exact J.2 X g K ok nmx lev hK en
def b_X10_value_47 (a3 : Int32) (a4 : Int32) (a6 : Nat) (h : AH) : Option (Int32 × AH) :=
  (l_i h a6 a3).bind fun x1 => (f_X3_valueIn x1 a4 h).bind fun q2 => b_X10_value_60 q2.1 q2.2
set_option maxHeartbeats 4000000 in
set_option maxRecDepth 100000 in
theorem q_X10_value_47 {a3 : Int32} {a4 : Int32} {a6 : Nat} {h hE : AH} {v : Int32} (hf : b_X10_value_47 a3 a4 a6 h = some (v, hE)) : JD cX10_value 7 RX10 "value" (some .int) (147) 47 [(3, .inl (a3)), (4, .inl (a4)), (6, .inr (.inr (a6)))] [] h hE (some (.inl (v))) := by
  unfold b_X10_value_47 at hf
  obtain ⟨x1, e1, hf⟩ := bnd hf
  obtain ⟨⟨x2, h2⟩, e2, hf⟩ := bnd hf
  try dsimp only at hf
  have k2 := c_X3_valueIn e2
  have m2 := (k2 default_g).1
  have J := q_X10_value_60 hf
  have mE := J.1
  refine ⟨by omega, fun X g K ok nmx lev hK en => ?_⟩
  refine tj_aload ok 2 dX10_value_47 rfl ?_
  refine tj_iload_n ok 0 dX10_value_49 rfl rfl ?_
  refine tj_iaload ok dX10_value_50 e1 ?_
  refine tj_iload ok 1 dX10_value_51 rfl ?_
  refine tj_callS (rest := ([] : List TV).map (vl g)) (as := [.inl (x1), .inl (a4)]) ok lev (by omega) (k2 g) (CaX.of en (by omega)) kn_X3_valueIn wm_1232 wm_385 (rs_ok (Nat.le_of_ble_eq_true rfl)) rfl rfl dX10_value_53 ?_
  refine tj_goto (tgt := 60) ok dX10_value_56 (by decide) ?_
  refine tj_sub (lv' := []) [] rfl ?_
  exact J.2 X g K ok nmx lev hK en
def b_X10_value_40 (a3 : Int32) (a4 : Int32) (a6 : Nat) (h : AH) : Option (Int32 × AH) :=
  (al_n h a6).bind fun x1 => if x1 ≤ a3 then b_X10_value_59 h else b_X10_value_47 a3 a4 a6 h
set_option maxHeartbeats 4000000 in
set_option maxRecDepth 100000 in
theorem q_X10_value_40 {a3 : Int32} {a4 : Int32} {a6 : Nat} {h hE : AH} {v : Int32} (hf : b_X10_value_40 a3 a4 a6 h = some (v, hE)) : JD cX10_value 7 RX10 "value" (some .int) (147) 40 [(3, .inl (a3)), (4, .inl (a4)), (6, .inr (.inr (a6)))] [] h hE (some (.inl (v))) := by
  unfold b_X10_value_40 at hf
  obtain ⟨x1, e1, hf⟩ := bnd hf
  have mE : hp_n h ≤ hp_n hE ∧ hp_s h ≤ hp_s hE := by
    by_cases hc : x1 ≤ a3
    · rw [if_pos hc] at hf; exact (q_X10_value_59 hf).1
    · rw [if_neg hc] at hf; exact (q_X10_value_47 hf).1
  refine ⟨by omega, fun X g K ok nmx lev hK en => ?_⟩
  refine tj_iload_n ok 0 dX10_value_40 rfl rfl ?_
  refine tj_aload ok 2 dX10_value_41 rfl ?_
  refine tj_alen ok dX10_value_43 e1 ?_
  refine tj_icmp_ge (tgt := 59) ok dX10_value_44 (by decide) (fun hc => ?_) (fun hc => ?_)
  · rw [if_pos hc] at hf
    refine tj_sub (lv' := []) [] rfl ?_
    exact (q_X10_value_59 hf).2 X g K ok nmx lev hK en
  · rw [if_neg hc] at hf
    exact (q_X10_value_47 hf).2 X g K ok nmx lev hK en
def b_X10_value_27 (a0 : Nat) (a2 : Int32) (a3 : Int32) (a4 : Int32) (a5 : Nat) (h : AH) : Option (Int32 × AH) :=
  (ok_v h a0 10).bind fun x1 => (f_X10_outcomesOf a0 a5 a2 h).bind fun q2 => if a3 < 0 then b_X10_value_59 q2.2 else b_X10_value_40 a3 a4 q2.1 q2.2
set_option maxHeartbeats 4000000 in
set_option maxRecDepth 100000 in
theorem q_X10_value_27 {a0 : Nat} {a2 : Int32} {a3 : Int32} {a4 : Int32} {a5 : Nat} {h hE : AH} {v : Int32} (hf : b_X10_value_27 a0 a2 a3 a4 a5 h = some (v, hE)) : JD cX10_value 7 RX10 "value" (some .int) (147) 27 [(0, .inr (.inr (a0))), (2, .inl (a2)), (3, .inl (a3)), (4, .inl (a4)), (5, .inr (.inr (a5)))] [] h hE (some (.inl (v))) := by
  unfold b_X10_value_27 at hf
  obtain ⟨x1, e1, hf⟩ := bnd hf
  obtain ⟨⟨x2, h2⟩, e2, hf⟩ := bnd hf
  try dsimp only at hf
  have k2 := c_X10_outcomesOf e2
  have m2 := (k2 default_g).1
  have mE : hp_n h2 ≤ hp_n hE ∧ hp_s h2 ≤ hp_s hE := by
    by_cases hc : a3 < 0
    · rw [if_pos hc] at hf; exact (q_X10_value_59 hf).1
    · rw [if_neg hc] at hf; exact (q_X10_value_40 hf).1
  refine ⟨by omega, fun X g K ok nmx lev hK en => ?_⟩
  refine tj_aload_n ok 0 dX10_value_27 rfl rfl ?_
  refine tj_aload ok 4 dX10_value_28 rfl ?_
  refine tj_iload_n ok 1 dX10_value_30 rfl rfl ?_
  refine tj_callV (rest := ([] : List TV).map (vl g)) (as := [.inr (.inr (a5)), .inl (a2)]) ok lev (by omega) fcX10.1 (by decide) rfl (of_if e1).1 (k2 g) (CaX.of en (by omega)) kn_X10_outcomesOf wm_1174 wm_1175 wm_1176 (rs_ok (Nat.le_of_ble_eq_true rfl)) rfl rfl dX10_value_31 ?_
  refine tj_astore (lv' := [(0, .inr (.inr (a0))), (2, .inl (a2)), (3, .inl (a3)), (4, .inl (a4)), (5, .inr (.inr (a5))), (6, .inr (.inr (x2)))]) ok dX10_value_34 (by decide) rfl ?_
  refine tj_iload_n ok 2 dX10_value_36 rfl rfl ?_
  refine tj_if_lt (tgt := 59) ok dX10_value_37 (by decide) (fun hc => ?_) (fun hc => ?_)
  · rw [if_pos hc] at hf
    refine tj_sub (lv' := []) [] rfl ?_
    exact (q_X10_value_59 hf).2 X g K ok nmx lev hK en
  · rw [if_neg hc] at hf
    refine tj_sub (lv' := [(3, .inl (a3)), (4, .inl (a4)), (6, .inr (.inr (x2)))]) [2, 3, 5] rfl ?_
    exact (q_X10_value_40 hf).2 X g K ok nmx lev hK en
def b_X10_value_19 (a0 : Nat) (a2 : Int32) (a3 : Int32) (a4 : Int32) (a5 : Nat) (h : AH) : Option (Int32 × AH) :=
  if a4 < (5 : Int32) then b_X10_value_27 a0 a2 a3 a4 a5 h else b_X10_value_25 h
set_option maxHeartbeats 4000000 in
set_option maxRecDepth 100000 in
theorem q_X10_value_19 {a0 : Nat} {a2 : Int32} {a3 : Int32} {a4 : Int32} {a5 : Nat} {h hE : AH} {v : Int32} (hf : b_X10_value_19 a0 a2 a3 a4 a5 h = some (v, hE)) : JD cX10_value 7 RX10 "value" (some .int) (147) 19 [(0, .inr (.inr (a0))), (2, .inl (a2)), (3, .inl (a3)), (4, .inl (a4)), (5, .inr (.inr (a5)))] [] h hE (some (.inl (v))) := by
  unfold b_X10_value_19 at hf
  have mE : hp_n h ≤ hp_n hE ∧ hp_s h ≤ hp_s hE := by
    by_cases hc : a4 < (5 : Int32)
    · rw [if_pos hc] at hf; exact (q_X10_value_27 hf).1
    · rw [if_neg hc] at hf; exact (q_X10_value_25 hf).1
  refine ⟨by omega, fun X g K ok nmx lev hK en => ?_⟩
  refine tj_iload ok 3 dX10_value_19 rfl ?_
  refine tj_iconst (v := 5) ok dX10_value_21 (by decide) ?_
  refine tj_icmp_lt (tgt := 27) ok dX10_value_22 (by decide) (fun hc => ?_) (fun hc => ?_)
  · rw [if_pos hc] at hf
    exact (q_X10_value_27 hf).2 X g K ok nmx lev hK en
  · rw [if_neg hc] at hf
    refine tj_sub (lv' := []) [] rfl ?_
    exact (q_X10_value_25 hf).2 X g K ok nmx lev hK en
def b_X10_value_14 (a0 : Nat) (a2 : Int32) (a3 : Int32) (a4 : Int32) (a5 : Nat) (h : AH) : Option (Int32 × AH) :=
  if a4 < 0 then b_X10_value_25 h else b_X10_value_19 a0 a2 a3 a4 a5 h
set_option maxHeartbeats 4000000 in
set_option maxRecDepth 100000 in
theorem q_X10_value_14 {a0 : Nat} {a2 : Int32} {a3 : Int32} {a4 : Int32} {a5 : Nat} {h hE : AH} {v : Int32} (hf : b_X10_value_14 a0 a2 a3 a4 a5 h = some (v, hE)) : JD cX10_value 7 RX10 "value" (some .int) (147) 14 [(0, .inr (.inr (a0))), (2, .inl (a2)), (3, .inl (a3)), (4, .inl (a4)), (5, .inr (.inr (a5)))] [] h hE (some (.inl (v))) := by
  unfold b_X10_value_14 at hf
  have mE : hp_n h ≤ hp_n hE ∧ hp_s h ≤ hp_s hE := by
    by_cases hc : a4 < 0
    · rw [if_pos hc] at hf; exact (q_X10_value_25 hf).1
    · rw [if_neg hc] at hf; exact (q_X10_value_19 hf).1
  refine ⟨by omega, fun X g K ok nmx lev hK en => ?_⟩
  refine tj_iload ok 3 dX10_value_14 rfl ?_
  refine tj_if_lt (tgt := 25) ok dX10_value_16 (by decide) (fun hc => ?_) (fun hc => ?_)
  · rw [if_pos hc] at hf
    refine tj_sub (lv' := []) [] rfl ?_
    exact (q_X10_value_25 hf).2 X g K ok nmx lev hK en
  · rw [if_neg hc] at hf
    exact (q_X10_value_19 hf).2 X g K ok nmx lev hK en
def b_X10_value_0 (a0 : Nat) (a1 : Int32) (a2 : Int32) (a3 : Int32) (a4 : Int32) (h : AH) : Option (Int32 × AH) :=
  (ok_v h a0 10).bind fun x1 => (f_X10_programAt a0 a1 h).bind fun q2 => (f_X10_isOrder a2 q2.2).bind fun q3 => if q3.1 = 0 then b_X10_value_25 q3.2 else b_X10_value_14 a0 a2 a3 a4 q2.1 q3.2
set_option maxHeartbeats 4000000 in
set_option maxRecDepth 100000 in
theorem q_X10_value_0 {a0 : Nat} {a1 : Int32} {a2 : Int32} {a3 : Int32} {a4 : Int32} {h hE : AH} {v : Int32} (hf : b_X10_value_0 a0 a1 a2 a3 a4 h = some (v, hE)) : JD cX10_value 7 RX10 "value" (some .int) (147) 0 [(0, .inr (.inr (a0))), (1, .inl (a1)), (2, .inl (a2)), (3, .inl (a3)), (4, .inl (a4))] [] h hE (some (.inl (v))) := by
  unfold b_X10_value_0 at hf
  obtain ⟨x1, e1, hf⟩ := bnd hf
  obtain ⟨⟨x2, h2⟩, e2, hf⟩ := bnd hf
  try dsimp only at hf
  have k2 := c_X10_programAt e2
  have m2 := (k2 default_g).1
  obtain ⟨⟨x3, h3⟩, e3, hf⟩ := bnd hf
  try dsimp only at hf
  have k3 := c_X10_isOrder e3
  have m3 := (k3 default_g).1
  have mE : hp_n h3 ≤ hp_n hE ∧ hp_s h3 ≤ hp_s hE := by
    by_cases hc : x3 = 0
    · rw [if_pos hc] at hf; exact (q_X10_value_25 hf).1
    · rw [if_neg hc] at hf; exact (q_X10_value_14 hf).1
  refine ⟨by omega, fun X g K ok nmx lev hK en => ?_⟩
  refine tj_aload_n ok 0 dX10_value_0 rfl rfl ?_
  refine tj_iload_n ok 1 dX10_value_1 rfl rfl ?_
  refine tj_callV (rest := ([] : List TV).map (vl g)) (as := [.inl (a1)]) ok lev (by omega) fcX10.1 (by decide) rfl (of_if e1).1 (k2 g) (CaX.of en (by omega)) kn_X10_programAt wm_1168 wm_1169 wm_1170 (rs_ok (Nat.le_of_ble_eq_true rfl)) rfl rfl dX10_value_2 ?_
  refine tj_astore (lv' := [(0, .inr (.inr (a0))), (1, .inl (a1)), (2, .inl (a2)), (3, .inl (a3)), (4, .inl (a4)), (5, .inr (.inr (x2)))]) ok dX10_value_5 (by decide) rfl ?_
  refine tj_iload_n ok 2 dX10_value_7 rfl rfl ?_
  refine tj_callS (rest := ([] : List TV).map (vl g)) (as := [.inl (a2)]) ok lev (by omega) (k3 g) (CaX.of en (by omega)) kn_X10_isOrder wm_1177 wm_1178 (rs_ok (Nat.le_of_ble_eq_true rfl)) rfl rfl dX10_value_8 ?_
  refine tj_if_eq (tgt := 25) ok dX10_value_11 (by decide) (fun hc => ?_) (fun hc => ?_)
  · rw [if_pos hc] at hf
    refine tj_sub (lv' := []) [] rfl ?_
    exact (q_X10_value_25 hf).2 X g K ok nmx lev hK en
  · rw [if_neg hc] at hf
    refine tj_sub (lv' := [(0, .inr (.inr (a0))), (2, .inl (a2)), (3, .inl (a3)), (4, .inl (a4)), (5, .inr (.inr (x2)))]) [0, 2, 3, 4, 5] rfl ?_
    exact (q_X10_value_14 hf).2 X g K ok nmx lev hK en
def f_X10_value (a0 : Nat) (a1 : Int32) (a2 : Int32) (a3 : Int32) (a4 : Int32) (h : AH) : Option (Int32 × AH) := b_X10_value_0  a0 a1 a2 a3 a4 h
theorem c_X10_value {a0 : Nat} {a1 : Int32} {a2 : Int32} {a3 : Int32} {a4 : Int32} {h hE : AH} {v : Int32} (hf : f_X10_value a0 a1 a2 a3 a4 h = some (v, hE)) : ∀ g : GT, CM g (147) yX10_value cX10_value 7 (some .int) h [.inr (.inr (a0)), .inl (a1), .inl (a2), .inl (a3), .inl (a4)] hE (some (.inl (v))) :=
  CM.ofJ (by decide) (by show _ ≤ 7; exact Nat.le_of_ble_eq_true rfl) (q_X10_value_0 hf)
set_option maxHeartbeats 4000000 in
set_option maxRecDepth 100000 in
theorem t_X10_value_0 {a0 : Nat} {a1 : Int32} {a2 : Int32} {a3 : Int32} {a4 : Int32} {h hE : AH} {E : Nat} {x1 : Unit} (e1 : ok_v h a0 10 = some x1) (hx : ∀ g : GT, CT g 10 yX10_programAt cX10_programAt 3 (some (.object "LitmusHouse$Program")) h [.inr (.inr (a0)), .inl (a1)] hE E) : ∀ g : GT, CT g 12 yX10_value cX10_value 7 (some .int) h [.inr (.inr (a0)), .inl (a1), .inl (a2), .inl (a3), .inl (a4)] hE E := by
  intro g
  have mE := (hx g).1
  refine CT.of (by decide) (by show _ ≤ 7; exact Nat.le_of_ble_eq_true rfl) (by omega) (fun X ok nmx lev th => ?_)
  refine tj_aload_n ok 0 dX10_value_0 rfl rfl ?_
  refine tj_iload_n ok 1 dX10_value_1 rfl rfl ?_
  exact tj_xV (rest := ([] : List TV).map (vl g)) (as := [.inl (a1)]) ok lev (by omega) fcX10.1 (by decide) rfl (of_if e1).1 (hx g) th kn_X10_programAt wm_1168 wm_1169 wm_1170 (rs_ok (Nat.le_of_ble_eq_true rfl)) rfl dX10_value_2
/-! ===== LitmusHouse.witness(I)I ===== -/
def b_X10_witness_0 (a0 : Nat) (a1 : Int32) (h : AH) : Option (Int32 × AH) :=
  (g_r h a0 10 5).bind fun x1 => (ok_v h a0 10).bind fun x2 => (f_X10_programAt a0 a1 h).bind fun q3 => (g_r q3.2 a0 10 2).bind fun x4 => (ok_v q3.2 x1 8).bind fun x5 => (f_X8_findWitness x1 q3.1 x4 q3.2).bind fun q6 => some (q6.1, q6.2)
set_option maxHeartbeats 4000000 in
set_option maxRecDepth 100000 in
theorem q_X10_witness_0 {a0 : Nat} {a1 : Int32} {h hE : AH} {v : Int32} (hf : b_X10_witness_0 a0 a1 h = some (v, hE)) : JD cX10_witness 2 RX10 "witness" (some .int) (146) 0 [(0, .inr (.inr (a0))), (1, .inl (a1))] [] h hE (some (.inl (v))) := by
  unfold b_X10_witness_0 at hf
  obtain ⟨x1, e1, hf⟩ := bnd hf
  obtain ⟨x2, e2, hf⟩ := bnd hf
  obtain ⟨⟨x3, h3⟩, e3, hf⟩ := bnd hf
  try dsimp only at hf
  have k3 := c_X10_programAt e3
  have m3 := (k3 default_g).1
  obtain ⟨x4, e4, hf⟩ := bnd hf
  obtain ⟨x5, e5, hf⟩ := bnd hf
  obtain ⟨⟨x6, h6⟩, e6, hf⟩ := bnd hf
  try dsimp only at hf
  have k6 := c_X8_findWitness e6
  have m6 := (k6 default_g).1
  obtain ⟨hv, hh⟩ := Prod.mk.inj (Option.some.inj hf)
  subst hv
  subst hh
  have mE : hp_n h6 ≤ hp_n h6 ∧ hp_s h6 ≤ hp_s h6 := ⟨Nat.le_refl _, Nat.le_refl _⟩
  refine ⟨by omega, fun X g K ok nmx lev hK en => ?_⟩
  refine tj_aload_n ok 0 dX10_witness_0 rfl rfl ?_
  refine tj_getR (k := 5) ok fcX10 (by decide) wm_212 rfl (Or.inl ⟨_, rfl⟩) dX10_witness_1 e1 ?_
  refine tj_aload_n ok 0 dX10_witness_4 rfl rfl ?_
  refine tj_iload_n ok 1 dX10_witness_5 rfl rfl ?_
  refine tj_callV (rest := ([.inr (.inr (x1))] : List TV).map (vl g)) (as := [.inl (a1)]) ok lev (by omega) fcX10.1 (by decide) rfl (of_if e2).1 (k3 g) (CaX.of en (by omega)) kn_X10_programAt wm_1168 wm_1169 wm_1170 (rs_ok (Nat.le_of_ble_eq_true rfl)) rfl rfl dX10_witness_6 ?_
  refine tj_aload_n ok 0 dX10_witness_9 rfl rfl ?_
  refine tj_getR (k := 2) ok fcX10 (by decide) wm_200 rfl (Or.inr ⟨_, rfl⟩) dX10_witness_10 e4 ?_
  refine tj_callV (rest := ([] : List TV).map (vl g)) (as := [.inr (.inr (x3)), .inr (.inr (x4))]) ok lev (by omega) fcX8.1 (by decide) rfl (of_if e5).1 (k6 g) (CaX.of en (by omega)) kn_X8_findWitness wm_1234 wm_1235 wm_1236 (rs_ok (Nat.le_of_ble_eq_true rfl)) rfl rfl dX10_witness_13 ?_
  exact tj_ireturn ok en dX10_witness_16
def f_X10_witness (a0 : Nat) (a1 : Int32) (h : AH) : Option (Int32 × AH) := b_X10_witness_0  a0 a1 h
theorem c_X10_witness {a0 : Nat} {a1 : Int32} {h hE : AH} {v : Int32} (hf : f_X10_witness a0 a1 h = some (v, hE)) : ∀ g : GT, CM g (146) yX10_witness cX10_witness 2 (some .int) h [.inr (.inr (a0)), .inl (a1)] hE (some (.inl (v))) :=
  CM.ofJ (by decide) (by show _ ≤ 2; exact Nat.le_of_ble_eq_true rfl) (q_X10_witness_0 hf)
set_option maxHeartbeats 4000000 in
set_option maxRecDepth 100000 in
theorem t_X10_witness_0 {a0 : Nat} {a1 : Int32} {h hE : AH} {E : Nat} {x1 : Nat} (e1 : g_r h a0 10 5 = some x1) {x2 : Unit} (e2 : ok_v h a0 10 = some x2) (hx : ∀ g : GT, CT g 10 yX10_programAt cX10_programAt 3 (some (.object "LitmusHouse$Program")) h [.inr (.inr (a0)), .inl (a1)] hE E) : ∀ g : GT, CT g 12 yX10_witness cX10_witness 2 (some .int) h [.inr (.inr (a0)), .inl (a1)] hE E := by
  intro g
  have mE := (hx g).1
  refine CT.of (by decide) (by show _ ≤ 2; exact Nat.le_of_ble_eq_true rfl) (by omega) (fun X ok nmx lev th => ?_)
  refine tj_aload_n ok 0 dX10_witness_0 rfl rfl ?_
  refine tj_getR (k := 5) ok fcX10 (by decide) wm_212 rfl (Or.inl ⟨_, rfl⟩) dX10_witness_1 e1 ?_
  refine tj_aload_n ok 0 dX10_witness_4 rfl rfl ?_
  refine tj_iload_n ok 1 dX10_witness_5 rfl rfl ?_
  exact tj_xV (rest := ([.inr (.inr (x1))] : List TV).map (vl g)) (as := [.inl (a1)]) ok lev (by omega) fcX10.1 (by decide) rfl (of_if e2).1 (hx g) th kn_X10_programAt wm_1168 wm_1169 wm_1170 (rs_ok (Nat.le_of_ble_eq_true rfl)) rfl dX10_witness_6
set_option maxHeartbeats 4000000 in
set_option maxRecDepth 100000 in
theorem t_demandPlace {a0 : Int32} {h : AH} (hp : a0 < 0 ∨ ¬ a0 < 8) : ∀ g : GT, CT g 8 yX10_demandPlace cX10_demandPlace 1 none h [.inl (a0)] (st_n h 12 6) 12 := by
  intro g
  refine CT.of (by decide) (by show _ ≤ 1; exact Nat.le_of_ble_eq_true rfl) nn_o (fun X ok nmx lev th => ?_)
  refine tj_iload_n ok 0 dX10_demandPlace_0 rfl rfl ?_
  refine tj_if_lt (tgt := 10) ok dX10_demandPlace_1 (by decide) (fun _ => ?_) (fun hc => ?_)
  · exact tj_throwS (st := ([] : List TV).map (vl g)) (i := 0) (E := 12) (cls := R_xi) ok lev (by omega) th rfl (by decide) rfl (by decide) Bundle.six_0 Bundle.six_1 Bundle.six_2 Bundle.six_5 wm_1237 wm_1238 rfl at_i at_i2 at_i3 (rs_ok (Nat.le_of_ble_eq_true rfl)) dX10_demandPlace_10 dX10_demandPlace_13 dX10_demandPlace_14 dX10_demandPlace_16 dX10_demandPlace_19
  refine tj_iload_n ok 0 dX10_demandPlace_4 rfl rfl ?_
  refine tj_bipush (v := 8) ok dX10_demandPlace_5 (by decide) ?_
  refine tj_icmp_lt (tgt := 20) ok dX10_demandPlace_7 (by decide) (fun hc2 => (hp.elim (fun q => absurd q hc) (fun q => absurd hc2 q))) (fun _ => ?_)
  exact tj_throwS (st := ([] : List TV).map (vl g)) (i := 0) (E := 12) (cls := R_xi) ok lev (by omega) th rfl (by decide) rfl (by decide) Bundle.six_0 Bundle.six_1 Bundle.six_2 Bundle.six_5 wm_1237 wm_1238 rfl at_i at_i2 at_i3 (rs_ok (Nat.le_of_ble_eq_true rfl)) dX10_demandPlace_10 dX10_demandPlace_13 dX10_demandPlace_14 dX10_demandPlace_16 dX10_demandPlace_19
set_option maxHeartbeats 4000000 in
set_option maxRecDepth 100000 in
theorem t_programAt {a0 : Nat} {a1 : Int32} {h h1 : AH} {x2 : Nat} (e1 : f_X10_demandPlace a1 h = some h1) (e2 : g_r h1 a0 10 1 = some x2) (e3 : l_r h1 x2 a1 = some 0) : ∀ g : GT, CT g 10 yX10_programAt cX10_programAt 3 (some (.object "LitmusHouse$Program")) h [.inr (.inr (a0)), .inl (a1)] (st_n h1 13 6) 13 := by
  intro g
  have k1 := c_X10_demandPlace e1
  have m1 := (k1 default_g).1
  have mE := nn_o (h := h1) (c := 13) (n := 6)
  refine CT.of (by decide) (by show _ ≤ 3; exact Nat.le_of_ble_eq_true rfl) (by omega) (fun X ok nmx lev th => ?_)
  refine tj_iload_n ok 1 dX10_programAt_0 rfl rfl ?_
  refine tj_callS (rest := ([] : List TV).map (vl g)) (as := [.inl (a1)]) ok lev (by omega) (k1 g) (CaX.ofT th (by omega)) kn_X10_demandPlace wm_1159 wm_1160 (rs_ok (Nat.le_of_ble_eq_true rfl)) rfl rfl dX10_programAt_1 ?_
  refine tj_aload_n ok 0 dX10_programAt_4 rfl rfl ?_
  refine tj_getR (k := 1) ok fcX10 (by decide) wm_199 rfl (Or.inr ⟨_, rfl⟩) dX10_programAt_5 e2 ?_
  refine tj_iload_n ok 1 dX10_programAt_8 rfl rfl ?_
  refine tj_aaload ok dX10_programAt_9 e3 ?_
  refine tj_astore_n (lv' := [(0, .inr (.inr (a0))), (1, .inl (a1)), (2, .inr (.inr (0)))]) ok dX10_programAt_10 rfl (by decide) rfl ?_
  refine tj_aload_n ok 2 dX10_programAt_11 rfl rfl ?_
  refine tj_ifnonnull (tgt := 25) ok dX10_programAt_12 (by decide) (fun hc => absurd rfl hc) (fun _ => ?_)
  refine tj_sub (lv' := []) [] rfl ?_
  exact tj_throwS (st := ([] : List TV).map (vl g)) (i := 9) (E := 13) (cls := R_xn) ok lev (by omega) th rfl (by decide) rfl (by decide) (by decide +kernel) (by decide +kernel) (by decide +kernel) (by decide +kernel) wm_1239 wm_1240 rfl at_n at_n2 at_n3 (rs_ok (Nat.le_of_ble_eq_true rfl)) dX10_programAt_15 dX10_programAt_18 dX10_programAt_19 dX10_programAt_21 dX10_programAt_24
