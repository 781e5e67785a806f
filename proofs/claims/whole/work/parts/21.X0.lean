theorem dX0_actionsOn_0 : decode cX0_actionsOn 0 = .ok (.iconst 0, 1) := by decide +kernel
theorem dX0_actionsOn_1 : decode cX0_actionsOn 1 = .ok (.istore_n 3, 1) := by decide +kernel
theorem dX0_actionsOn_2 : decode cX0_actionsOn 2 = .ok (.iconst 0, 1) := by decide +kernel
theorem dX0_actionsOn_3 : decode cX0_actionsOn 3 = .ok (.istore 4, 2) := by decide +kernel
theorem dX0_actionsOn_5 : decode cX0_actionsOn 5 = .ok (.iload 4, 2) := by decide +kernel
theorem dX0_actionsOn_7 : decode cX0_actionsOn 7 = .ok (.aload_n 0, 1) := by decide +kernel
theorem dX0_actionsOn_8 : decode cX0_actionsOn 8 = .ok (.getfield 49, 3) := by decide +kernel
theorem dX0_actionsOn_11 : decode cX0_actionsOn 11 = .ok (.if_icmp .ge 57, 3) := by decide +kernel
theorem dX0_actionsOn_14 : decode cX0_actionsOn 14 = .ok (.iload 4, 2) := by decide +kernel
theorem dX0_actionsOn_16 : decode cX0_actionsOn 16 = .ok (.bipush 8, 2) := by decide +kernel
theorem dX0_actionsOn_18 : decode cX0_actionsOn 18 = .ok (.if_icmp .ge 50, 3) := by decide +kernel
theorem dX0_actionsOn_21 : decode cX0_actionsOn 21 = .ok (.aload_n 0, 1) := by decide +kernel
theorem dX0_actionsOn_22 : decode cX0_actionsOn 22 = .ok (.getfield 36, 3) := by decide +kernel
theorem dX0_actionsOn_25 : decode cX0_actionsOn 25 = .ok (.iload 4, 2) := by decide +kernel
theorem dX0_actionsOn_27 : decode cX0_actionsOn 27 = .ok (.iaload, 1) := by decide +kernel
theorem dX0_actionsOn_28 : decode cX0_actionsOn 28 = .ok (.bipush 63, 2) := by decide +kernel
theorem dX0_actionsOn_30 : decode cX0_actionsOn 30 = .ok (.iand, 1) := by decide +kernel
theorem dX0_actionsOn_31 : decode cX0_actionsOn 31 = .ok (.istore 5, 2) := by decide +kernel
theorem dX0_actionsOn_33 : decode cX0_actionsOn 33 = .ok (.aload_n 0, 1) := by decide +kernel
theorem dX0_actionsOn_34 : decode cX0_actionsOn 34 = .ok (.getfield 9, 3) := by decide +kernel
theorem dX0_actionsOn_37 : decode cX0_actionsOn 37 = .ok (.iload 5, 2) := by decide +kernel
theorem dX0_actionsOn_39 : decode cX0_actionsOn 39 = .ok (.iaload, 1) := by decide +kernel
theorem dX0_actionsOn_40 : decode cX0_actionsOn 40 = .ok (.iload_n 1, 1) := by decide +kernel
theorem dX0_actionsOn_41 : decode cX0_actionsOn 41 = .ok (.if_icmp .ne 21, 3) := by decide +kernel
theorem dX0_actionsOn_44 : decode cX0_actionsOn 44 = .ok (.aload_n 0, 1) := by decide +kernel
theorem dX0_actionsOn_45 : decode cX0_actionsOn 45 = .ok (.getfield 24, 3) := by decide +kernel
theorem dX0_actionsOn_48 : decode cX0_actionsOn 48 = .ok (.iload 5, 2) := by decide +kernel
theorem dX0_actionsOn_50 : decode cX0_actionsOn 50 = .ok (.iaload, 1) := by decide +kernel
theorem dX0_actionsOn_51 : decode cX0_actionsOn 51 = .ok (.iload_n 2, 1) := by decide +kernel
theorem dX0_actionsOn_52 : decode cX0_actionsOn 52 = .ok (.if_icmp .ne 10, 3) := by decide +kernel
theorem dX0_actionsOn_55 : decode cX0_actionsOn 55 = .ok (.iload_n 3, 1) := by decide +kernel
theorem dX0_actionsOn_56 : decode cX0_actionsOn 56 = .ok (.iconst 1, 1) := by decide +kernel
theorem dX0_actionsOn_57 : decode cX0_actionsOn 57 = .ok (.iload 4, 2) := by decide +kernel
theorem dX0_actionsOn_59 : decode cX0_actionsOn 59 = .ok (.ishl, 1) := by decide +kernel
theorem dX0_actionsOn_60 : decode cX0_actionsOn 60 = .ok (.ior, 1) := by decide +kernel
theorem dX0_actionsOn_61 : decode cX0_actionsOn 61 = .ok (.istore_n 3, 1) := by decide +kernel
theorem dX0_actionsOn_62 : decode cX0_actionsOn 62 = .ok (.iinc 4 1, 3) := by decide +kernel
theorem dX0_actionsOn_65 : decode cX0_actionsOn 65 = .ok (.goto (-60), 3) := by decide +kernel
theorem dX0_actionsOn_68 : decode cX0_actionsOn 68 = .ok (.iload_n 3, 1) := by decide +kernel
theorem dX0_actionsOn_69 : decode cX0_actionsOn 69 = .ok (.ireturn, 1) := by decide +kernel
theorem dX0_add_0 : decode cX0_add 0 = .ok (.aload_n 0, 1) := by decide +kernel
theorem dX0_add_1 : decode cX0_add 1 = .ok (.getfield 42, 3) := by decide +kernel
theorem dX0_add_4 : decode cX0_add 4 = .ok (.bipush 63, 2) := by decide +kernel
theorem dX0_add_6 : decode cX0_add 6 = .ok (.iand, 1) := by decide +kernel
theorem dX0_add_7 : decode cX0_add 7 = .ok (.istore 6, 2) := by decide +kernel
theorem dX0_add_9 : decode cX0_add 9 = .ok (.aload_n 0, 1) := by decide +kernel
theorem dX0_add_10 : decode cX0_add 10 = .ok (.getfield 9, 3) := by decide +kernel
theorem dX0_add_13 : decode cX0_add 13 = .ok (.iload 6, 2) := by decide +kernel
theorem dX0_add_15 : decode cX0_add 15 = .ok (.iload_n 1, 1) := by decide +kernel
theorem dX0_add_16 : decode cX0_add 16 = .ok (.iastore, 1) := by decide +kernel
theorem dX0_add_17 : decode cX0_add 17 = .ok (.aload_n 0, 1) := by decide +kernel
theorem dX0_add_18 : decode cX0_add 18 = .ok (.getfield 15, 3) := by decide +kernel
theorem dX0_add_21 : decode cX0_add 21 = .ok (.iload 6, 2) := by decide +kernel
theorem dX0_add_23 : decode cX0_add 23 = .ok (.iload_n 2, 1) := by decide +kernel
theorem dX0_add_24 : decode cX0_add 24 = .ok (.iastore, 1) := by decide +kernel
theorem dX0_add_25 : decode cX0_add 25 = .ok (.aload_n 0, 1) := by decide +kernel
theorem dX0_add_26 : decode cX0_add 26 = .ok (.getfield 18, 3) := by decide +kernel
theorem dX0_add_29 : decode cX0_add 29 = .ok (.iload 6, 2) := by decide +kernel
theorem dX0_add_31 : decode cX0_add 31 = .ok (.iload_n 3, 1) := by decide +kernel
theorem dX0_add_32 : decode cX0_add 32 = .ok (.iastore, 1) := by decide +kernel
theorem dX0_add_33 : decode cX0_add 33 = .ok (.aload_n 0, 1) := by decide +kernel
theorem dX0_add_34 : decode cX0_add 34 = .ok (.getfield 21, 3) := by decide +kernel
theorem dX0_add_37 : decode cX0_add 37 = .ok (.iload 6, 2) := by decide +kernel
theorem dX0_add_39 : decode cX0_add 39 = .ok (.iload 4, 2) := by decide +kernel
theorem dX0_add_41 : decode cX0_add 41 = .ok (.iastore, 1) := by decide +kernel
theorem dX0_add_42 : decode cX0_add 42 = .ok (.aload_n 0, 1) := by decide +kernel
theorem dX0_add_43 : decode cX0_add 43 = .ok (.getfield 24, 3) := by decide +kernel
theorem dX0_add_46 : decode cX0_add 46 = .ok (.iload 6, 2) := by decide +kernel
theorem dX0_add_48 : decode cX0_add 48 = .ok (.iload 5, 2) := by decide +kernel
theorem dX0_add_50 : decode cX0_add 50 = .ok (.iastore, 1) := by decide +kernel
theorem dX0_add_51 : decode cX0_add 51 = .ok (.aload_n 0, 1) := by decide +kernel
theorem dX0_add_52 : decode cX0_add 52 = .ok (.getfield 30, 3) := by decide +kernel
theorem dX0_add_55 : decode cX0_add 55 = .ok (.iload 6, 2) := by decide +kernel
theorem dX0_add_57 : decode cX0_add 57 = .ok (.iconst (-1), 1) := by decide +kernel
theorem dX0_add_58 : decode cX0_add 58 = .ok (.iastore, 1) := by decide +kernel
theorem dX0_add_59 : decode cX0_add 59 = .ok (.aload_n 0, 1) := by decide +kernel
theorem dX0_add_60 : decode cX0_add 60 = .ok (.aload_n 0, 1) := by decide +kernel
theorem dX0_add_61 : decode cX0_add 61 = .ok (.getfield 42, 3) := by decide +kernel
theorem dX0_add_64 : decode cX0_add 64 = .ok (.iconst 1, 1) := by decide +kernel
theorem dX0_add_65 : decode cX0_add 65 = .ok (.iadd, 1) := by decide +kernel
theorem dX0_add_66 : decode cX0_add 66 = .ok (.bipush 64, 2) := by decide +kernel
theorem dX0_add_68 : decode cX0_add 68 = .ok (.invokestatic 67, 3) := by decide +kernel
theorem dX0_add_71 : decode cX0_add 71 = .ok (.putfield 42, 3) := by decide +kernel
theorem dX0_add_74 : decode cX0_add 74 = .ok (.iload 6, 2) := by decide +kernel
theorem dX0_add_76 : decode cX0_add 76 = .ok (.ireturn, 1) := by decide +kernel
theorem dX0_addAction_0 : decode cX0_addAction 0 = .ok (.aload_n 0, 1) := by decide +kernel
theorem dX0_addAction_1 : decode cX0_addAction 1 = .ok (.iload_n 2, 1) := by decide +kernel
theorem dX0_addAction_2 : decode cX0_addAction 2 = .ok (.iload_n 3, 1) := by decide +kernel
theorem dX0_addAction_3 : decode cX0_addAction 3 = .ok (.iload 4, 2) := by decide +kernel
theorem dX0_addAction_5 : decode cX0_addAction 5 = .ok (.iload 5, 2) := by decide +kernel
theorem dX0_addAction_7 : decode cX0_addAction 7 = .ok (.iload 6, 2) := by decide +kernel
theorem dX0_addAction_9 : decode cX0_addAction 9 = .ok (.invokevirtual 73, 3) := by decide +kernel
theorem dX0_addAction_12 : decode cX0_addAction 12 = .ok (.istore 7, 2) := by decide +kernel
theorem dX0_addAction_14 : decode cX0_addAction 14 = .ok (.aload_n 0, 1) := by decide +kernel
theorem dX0_addAction_15 : decode cX0_addAction 15 = .ok (.getfield 49, 3) := by decide +kernel
theorem dX0_addAction_18 : decode cX0_addAction 18 = .ok (.bipush 8, 2) := by decide +kernel
theorem dX0_addAction_20 : decode cX0_addAction 20 = .ok (.if_icmp .ge 45, 3) := by decide +kernel
theorem dX0_addAction_23 : decode cX0_addAction 23 = .ok (.aload_n 0, 1) := by decide +kernel
theorem dX0_addAction_24 : decode cX0_addAction 24 = .ok (.getfield 30, 3) := by decide +kernel
theorem dX0_addAction_27 : decode cX0_addAction 27 = .ok (.iload 7, 2) := by decide +kernel
theorem dX0_addAction_29 : decode cX0_addAction 29 = .ok (.aload_n 0, 1) := by decide +kernel
theorem dX0_addAction_30 : decode cX0_addAction 30 = .ok (.getfield 49, 3) := by decide +kernel
theorem dX0_addAction_33 : decode cX0_addAction 33 = .ok (.iastore, 1) := by decide +kernel
theorem dX0_addAction_34 : decode cX0_addAction 34 = .ok (.aload_n 0, 1) := by decide +kernel
theorem dX0_addAction_35 : decode cX0_addAction 35 = .ok (.getfield 36, 3) := by decide +kernel
theorem dX0_addAction_38 : decode cX0_addAction 38 = .ok (.aload_n 0, 1) := by decide +kernel
theorem dX0_addAction_39 : decode cX0_addAction 39 = .ok (.getfield 49, 3) := by decide +kernel
theorem dX0_addAction_42 : decode cX0_addAction 42 = .ok (.iload 7, 2) := by decide +kernel
theorem dX0_addAction_44 : decode cX0_addAction 44 = .ok (.iastore, 1) := by decide +kernel
theorem dX0_addAction_45 : decode cX0_addAction 45 = .ok (.aload_n 0, 1) := by decide +kernel
theorem dX0_addAction_46 : decode cX0_addAction 46 = .ok (.getfield 39, 3) := by decide +kernel
theorem dX0_addAction_49 : decode cX0_addAction 49 = .ok (.aload_n 0, 1) := by decide +kernel
theorem dX0_addAction_50 : decode cX0_addAction 50 = .ok (.getfield 49, 3) := by decide +kernel
theorem dX0_addAction_53 : decode cX0_addAction 53 = .ok (.iload_n 1, 1) := by decide +kernel
theorem dX0_addAction_54 : decode cX0_addAction 54 = .ok (.iastore, 1) := by decide +kernel
theorem dX0_addAction_55 : decode cX0_addAction 55 = .ok (.aload_n 0, 1) := by decide +kernel
theorem dX0_addAction_56 : decode cX0_addAction 56 = .ok (.dup, 1) := by decide +kernel
theorem dX0_addAction_57 : decode cX0_addAction 57 = .ok (.getfield 49, 3) := by decide +kernel
theorem dX0_addAction_60 : decode cX0_addAction 60 = .ok (.iconst 1, 1) := by decide +kernel
theorem dX0_addAction_61 : decode cX0_addAction 61 = .ok (.iadd, 1) := by decide +kernel
theorem dX0_addAction_62 : decode cX0_addAction 62 = .ok (.putfield 49, 3) := by decide +kernel
theorem dX0_addAction_65 : decode cX0_addAction 65 = .ok (.return_, 1) := by decide +kernel
theorem dX0_init_0 : decode cX0_init 0 = .ok (.aload_n 0, 1) := by decide +kernel
theorem dX0_init_1 : decode cX0_init 1 = .ok (.invokespecial 3, 3) := by decide +kernel
theorem dX0_init_4 : decode cX0_init 4 = .ok (.aload_n 0, 1) := by decide +kernel
theorem dX0_init_5 : decode cX0_init 5 = .ok (.bipush 64, 2) := by decide +kernel
theorem dX0_init_7 : decode cX0_init 7 = .ok (.newarray .int, 2) := by decide +kernel
theorem dX0_init_9 : decode cX0_init 9 = .ok (.putfield 9, 3) := by decide +kernel
theorem dX0_init_12 : decode cX0_init 12 = .ok (.aload_n 0, 1) := by decide +kernel
theorem dX0_init_13 : decode cX0_init 13 = .ok (.bipush 64, 2) := by decide +kernel
theorem dX0_init_15 : decode cX0_init 15 = .ok (.newarray .int, 2) := by decide +kernel
theorem dX0_init_17 : decode cX0_init 17 = .ok (.putfield 15, 3) := by decide +kernel
theorem dX0_init_20 : decode cX0_init 20 = .ok (.aload_n 0, 1) := by decide +kernel
theorem dX0_init_21 : decode cX0_init 21 = .ok (.bipush 64, 2) := by decide +kernel
theorem dX0_init_23 : decode cX0_init 23 = .ok (.newarray .int, 2) := by decide +kernel
theorem dX0_init_25 : decode cX0_init 25 = .ok (.putfield 18, 3) := by decide +kernel
theorem dX0_init_28 : decode cX0_init 28 = .ok (.aload_n 0, 1) := by decide +kernel
theorem dX0_init_29 : decode cX0_init 29 = .ok (.bipush 64, 2) := by decide +kernel
theorem dX0_init_31 : decode cX0_init 31 = .ok (.newarray .int, 2) := by decide +kernel
theorem dX0_init_33 : decode cX0_init 33 = .ok (.putfield 21, 3) := by decide +kernel
theorem dX0_init_36 : decode cX0_init 36 = .ok (.aload_n 0, 1) := by decide +kernel
theorem dX0_init_37 : decode cX0_init 37 = .ok (.bipush 64, 2) := by decide +kernel
theorem dX0_init_39 : decode cX0_init 39 = .ok (.newarray .int, 2) := by decide +kernel
theorem dX0_init_41 : decode cX0_init 41 = .ok (.putfield 24, 3) := by decide +kernel
theorem dX0_init_44 : decode cX0_init 44 = .ok (.aload_n 0, 1) := by decide +kernel
theorem dX0_init_45 : decode cX0_init 45 = .ok (.bipush 64, 2) := by decide +kernel
theorem dX0_init_47 : decode cX0_init 47 = .ok (.newarray .int, 2) := by decide +kernel
theorem dX0_init_49 : decode cX0_init 49 = .ok (.putfield 27, 3) := by decide +kernel
theorem dX0_init_52 : decode cX0_init 52 = .ok (.aload_n 0, 1) := by decide +kernel
theorem dX0_init_53 : decode cX0_init 53 = .ok (.bipush 64, 2) := by decide +kernel
theorem dX0_init_55 : decode cX0_init 55 = .ok (.newarray .int, 2) := by decide +kernel
theorem dX0_init_57 : decode cX0_init 57 = .ok (.putfield 30, 3) := by decide +kernel
theorem dX0_init_60 : decode cX0_init 60 = .ok (.aload_n 0, 1) := by decide +kernel
theorem dX0_init_61 : decode cX0_init 61 = .ok (.iconst 4, 1) := by decide +kernel
theorem dX0_init_62 : decode cX0_init 62 = .ok (.newarray .int, 2) := by decide +kernel
theorem dX0_init_64 : decode cX0_init 64 = .ok (.putfield 33, 3) := by decide +kernel
theorem dX0_init_67 : decode cX0_init 67 = .ok (.aload_n 0, 1) := by decide +kernel
theorem dX0_init_68 : decode cX0_init 68 = .ok (.bipush 8, 2) := by decide +kernel
theorem dX0_init_70 : decode cX0_init 70 = .ok (.newarray .int, 2) := by decide +kernel
theorem dX0_init_72 : decode cX0_init 72 = .ok (.putfield 36, 3) := by decide +kernel
theorem dX0_init_75 : decode cX0_init 75 = .ok (.aload_n 0, 1) := by decide +kernel
theorem dX0_init_76 : decode cX0_init 76 = .ok (.bipush 8, 2) := by decide +kernel
theorem dX0_init_78 : decode cX0_init 78 = .ok (.newarray .int, 2) := by decide +kernel
theorem dX0_init_80 : decode cX0_init 80 = .ok (.putfield 39, 3) := by decide +kernel
theorem dX0_init_83 : decode cX0_init 83 = .ok (.aload_n 0, 1) := by decide +kernel
theorem dX0_init_84 : decode cX0_init 84 = .ok (.iconst 0, 1) := by decide +kernel
theorem dX0_init_85 : decode cX0_init 85 = .ok (.putfield 42, 3) := by decide +kernel
theorem dX0_init_88 : decode cX0_init 88 = .ok (.aload_n 0, 1) := by decide +kernel
theorem dX0_init_89 : decode cX0_init 89 = .ok (.iconst 0, 1) := by decide +kernel
theorem dX0_init_90 : decode cX0_init 90 = .ok (.putfield 46, 3) := by decide +kernel
theorem dX0_init_93 : decode cX0_init 93 = .ok (.aload_n 0, 1) := by decide +kernel
theorem dX0_init_94 : decode cX0_init 94 = .ok (.iconst 0, 1) := by decide +kernel
theorem dX0_init_95 : decode cX0_init 95 = .ok (.putfield 49, 3) := by decide +kernel
theorem dX0_init_98 : decode cX0_init 98 = .ok (.aload_n 0, 1) := by decide +kernel
theorem dX0_init_99 : decode cX0_init 99 = .ok (.iconst 0, 1) := by decide +kernel
theorem dX0_init_100 : decode cX0_init 100 = .ok (.putfield 52, 3) := by decide +kernel
theorem dX0_init_103 : decode cX0_init 103 = .ok (.aload_n 0, 1) := by decide +kernel
theorem dX0_init_104 : decode cX0_init 104 = .ok (.iconst 0, 1) := by decide +kernel
theorem dX0_init_105 : decode cX0_init 105 = .ok (.putfield 55, 3) := by decide +kernel
theorem dX0_init_108 : decode cX0_init 108 = .ok (.aload_n 0, 1) := by decide +kernel
theorem dX0_init_109 : decode cX0_init 109 = .ok (.iconst 0, 1) := by decide +kernel
theorem dX0_init_110 : decode cX0_init 110 = .ok (.putfield 58, 3) := by decide +kernel
theorem dX0_init_113 : decode cX0_init 113 = .ok (.aload_n 0, 1) := by decide +kernel
theorem dX0_init_114 : decode cX0_init 114 = .ok (.iconst (-1), 1) := by decide +kernel
theorem dX0_init_115 : decode cX0_init 115 = .ok (.putfield 61, 3) := by decide +kernel
theorem dX0_init_118 : decode cX0_init 118 = .ok (.aload_n 0, 1) := by decide +kernel
theorem dX0_init_119 : decode cX0_init 119 = .ok (.iconst (-1), 1) := by decide +kernel
theorem dX0_init_120 : decode cX0_init 120 = .ok (.putfield 64, 3) := by decide +kernel
theorem dX0_init_123 : decode cX0_init 123 = .ok (.return_, 1) := by decide +kernel
theorem dX0_isCellAction_0 : decode cX0_isCellAction 0 = .ok (.aload_n 0, 1) := by decide +kernel
theorem dX0_isCellAction_1 : decode cX0_isCellAction 1 = .ok (.getfield 9, 3) := by decide +kernel
theorem dX0_isCellAction_4 : decode cX0_isCellAction 4 = .ok (.iload_n 1, 1) := by decide +kernel
theorem dX0_isCellAction_5 : decode cX0_isCellAction 5 = .ok (.bipush 63, 2) := by decide +kernel
theorem dX0_isCellAction_7 : decode cX0_isCellAction 7 = .ok (.iand, 1) := by decide +kernel
theorem dX0_isCellAction_8 : decode cX0_isCellAction 8 = .ok (.iaload, 1) := by decide +kernel
theorem dX0_isCellAction_9 : decode cX0_isCellAction 9 = .ok (.istore_n 2, 1) := by decide +kernel
theorem dX0_isCellAction_10 : decode cX0_isCellAction 10 = .ok (.iload_n 2, 1) := by decide +kernel
theorem dX0_isCellAction_11 : decode cX0_isCellAction 11 = .ok (.ifCond .eq 13, 3) := by decide +kernel
theorem dX0_isCellAction_14 : decode cX0_isCellAction 14 = .ok (.iload_n 2, 1) := by decide +kernel
theorem dX0_isCellAction_15 : decode cX0_isCellAction 15 = .ok (.iconst 1, 1) := by decide +kernel
theorem dX0_isCellAction_16 : decode cX0_isCellAction 16 = .ok (.if_icmp .eq 8, 3) := by decide +kernel
theorem dX0_isCellAction_19 : decode cX0_isCellAction 19 = .ok (.iload_n 2, 1) := by decide +kernel
theorem dX0_isCellAction_20 : decode cX0_isCellAction 20 = .ok (.iconst 2, 1) := by decide +kernel
theorem dX0_isCellAction_21 : decode cX0_isCellAction 21 = .ok (.if_icmp .ne 7, 3) := by decide +kernel
theorem dX0_isCellAction_24 : decode cX0_isCellAction 24 = .ok (.iconst 1, 1) := by decide +kernel
theorem dX0_isCellAction_25 : decode cX0_isCellAction 25 = .ok (.goto 4, 3) := by decide +kernel
theorem dX0_isCellAction_28 : decode cX0_isCellAction 28 = .ok (.iconst 0, 1) := by decide +kernel
theorem dX0_isCellAction_29 : decode cX0_isCellAction 29 = .ok (.ireturn, 1) := by decide +kernel
theorem dX0_touchedCells_0 : decode cX0_touchedCells 0 = .ok (.iconst 0, 1) := by decide +kernel
theorem dX0_touchedCells_1 : decode cX0_touchedCells 1 = .ok (.istore_n 1, 1) := by decide +kernel
theorem dX0_touchedCells_2 : decode cX0_touchedCells 2 = .ok (.iconst 0, 1) := by decide +kernel
theorem dX0_touchedCells_3 : decode cX0_touchedCells 3 = .ok (.istore_n 2, 1) := by decide +kernel
theorem dX0_touchedCells_4 : decode cX0_touchedCells 4 = .ok (.iload_n 2, 1) := by decide +kernel
theorem dX0_touchedCells_5 : decode cX0_touchedCells 5 = .ok (.aload_n 0, 1) := by decide +kernel
theorem dX0_touchedCells_6 : decode cX0_touchedCells 6 = .ok (.getfield 49, 3) := by decide +kernel
theorem dX0_touchedCells_9 : decode cX0_touchedCells 9 = .ok (.if_icmp .ge 44, 3) := by decide +kernel
theorem dX0_touchedCells_12 : decode cX0_touchedCells 12 = .ok (.iload_n 2, 1) := by decide +kernel
theorem dX0_touchedCells_13 : decode cX0_touchedCells 13 = .ok (.bipush 8, 2) := by decide +kernel
theorem dX0_touchedCells_15 : decode cX0_touchedCells 15 = .ok (.if_icmp .ge 38, 3) := by decide +kernel
theorem dX0_touchedCells_18 : decode cX0_touchedCells 18 = .ok (.aload_n 0, 1) := by decide +kernel
theorem dX0_touchedCells_19 : decode cX0_touchedCells 19 = .ok (.getfield 36, 3) := by decide +kernel
theorem dX0_touchedCells_22 : decode cX0_touchedCells 22 = .ok (.iload_n 2, 1) := by decide +kernel
theorem dX0_touchedCells_23 : decode cX0_touchedCells 23 = .ok (.iaload, 1) := by decide +kernel
theorem dX0_touchedCells_24 : decode cX0_touchedCells 24 = .ok (.bipush 63, 2) := by decide +kernel
theorem dX0_touchedCells_26 : decode cX0_touchedCells 26 = .ok (.iand, 1) := by decide +kernel
theorem dX0_touchedCells_27 : decode cX0_touchedCells 27 = .ok (.istore_n 3, 1) := by decide +kernel
theorem dX0_touchedCells_28 : decode cX0_touchedCells 28 = .ok (.aload_n 0, 1) := by decide +kernel
theorem dX0_touchedCells_29 : decode cX0_touchedCells 29 = .ok (.iload_n 3, 1) := by decide +kernel
theorem dX0_touchedCells_30 : decode cX0_touchedCells 30 = .ok (.invokevirtual 77, 3) := by decide +kernel
theorem dX0_touchedCells_33 : decode cX0_touchedCells 33 = .ok (.ifCond .eq 14, 3) := by decide +kernel
theorem dX0_touchedCells_36 : decode cX0_touchedCells 36 = .ok (.iload_n 1, 1) := by decide +kernel
theorem dX0_touchedCells_37 : decode cX0_touchedCells 37 = .ok (.iconst 1, 1) := by decide +kernel
theorem dX0_touchedCells_38 : decode cX0_touchedCells 38 = .ok (.aload_n 0, 1) := by decide +kernel
theorem dX0_touchedCells_39 : decode cX0_touchedCells 39 = .ok (.getfield 24, 3) := by decide +kernel
theorem dX0_touchedCells_42 : decode cX0_touchedCells 42 = .ok (.iload_n 3, 1) := by decide +kernel
theorem dX0_touchedCells_43 : decode cX0_touchedCells 43 = .ok (.iaload, 1) := by decide +kernel
theorem dX0_touchedCells_44 : decode cX0_touchedCells 44 = .ok (.ishl, 1) := by decide +kernel
theorem dX0_touchedCells_45 : decode cX0_touchedCells 45 = .ok (.ior, 1) := by decide +kernel
theorem dX0_touchedCells_46 : decode cX0_touchedCells 46 = .ok (.istore_n 1, 1) := by decide +kernel
theorem dX0_touchedCells_47 : decode cX0_touchedCells 47 = .ok (.iinc 2 1, 3) := by decide +kernel
theorem dX0_touchedCells_50 : decode cX0_touchedCells 50 = .ok (.goto (-46), 3) := by decide +kernel
theorem dX0_touchedCells_53 : decode cX0_touchedCells 53 = .ok (.iload_n 1, 1) := by decide +kernel
theorem dX0_touchedCells_54 : decode cX0_touchedCells 54 = .ok (.ireturn, 1) := by decide +kernel
theorem kn_X0_actionsOn : Kn yX0_actionsOn cX0_actionsOn 6 (some .int) 2 := ⟨wm_55, wm_56, by decide +kernel, by decide⟩
theorem kn_X0_add : Kn yX0_add cX0_add 7 (some .int) 5 := ⟨wm_61, wm_56, by decide +kernel, by decide⟩
theorem kn_X0_addAction : Kn yX0_addAction cX0_addAction 8 none 6 := ⟨wm_68, wm_56, by decide +kernel, by decide⟩
theorem kn_X0_init : Kn yX0_init cX0_init 1 none 0 := ⟨wm_73, wm_56, by decide +kernel, by decide⟩
theorem kn_X0_isCellAction : Kn yX0_isCellAction cX0_isCellAction 3 (some .boolean) 1 := ⟨wm_84, wm_56, by decide +kernel, by decide⟩
theorem kn_X0_touchedCells : Kn yX0_touchedCells cX0_touchedCells 4 (some .int) 0 := ⟨wm_85, wm_56, by decide +kernel, by decide⟩
/-! ===== LitmusHouse$Code.actionsOn(II)I ===== -/
def b_X0_actionsOn_68 (a3 : Int32) (h : AH) : Option (Int32 × AH) :=
  some (a3, h)
set_option maxHeartbeats 4000000 in
set_option maxRecDepth 100000 in
theorem q_X0_actionsOn_68 {a3 : Int32} {h hE : AH} {v : Int32} (hf : b_X0_actionsOn_68 a3 h = some (v, hE)) : JD cX0_actionsOn 6 RX0 "actionsOn" (some .int) (2) 68 [(3, .inl (a3))] [] h hE (some (.inl (v))) := by
  unfold b_X0_actionsOn_68 at hf
  obtain ⟨hv, hh⟩ := Prod.mk.inj (Option.some.inj hf)
  subst hv
  subst hh
  have mE : hp_n h ≤ hp_n h ∧ hp_s h ≤ hp_s h := ⟨Nat.le_refl _, Nat.le_refl _⟩
  refine ⟨by omega, fun X g K ok nmx lev hK en => ?_⟩
  refine tj_iload_n ok 0 dX0_actionsOn_68 rfl rfl ?_
  exact tj_ireturn ok en dX0_actionsOn_69
def b_X0_actionsOn_62 (r5 : Nat → Int32 → Int32 → Int32 → Int32 → AH → Option (Int32 × AH)) (a0 : Nat) (a1 : Int32) (a2 : Int32) (a3 : Int32) (a4 : Int32) (h : AH) : Option (Int32 × AH) :=
  r5 a0 a1 a2 a3 (a4 + (1 : Int32)) h
set_option maxHeartbeats 4000000 in
set_option maxRecDepth 100000 in
theorem q_X0_actionsOn_62 {hE : AH} {v : Int32} {r5 : Nat → Int32 → Int32 → Int32 → Int32 → AH → Option (Int32 × AH)} (hr5 : ∀ (b0 : Nat) (b1 : Int32) (b2 : Int32) (b3 : Int32) (b4 : Int32) (h : AH), r5 b0 b1 b2 b3 b4 h = some (v, hE) → JD cX0_actionsOn 6 RX0 "actionsOn" (some .int) (2) 5 [(0, .inr (.inr (b0))), (1, .inl (b1)), (2, .inl (b2)), (3, .inl (b3)), (4, .inl (b4))] [] h hE (some (.inl (v)))) {a0 : Nat} {a1 : Int32} {a2 : Int32} {a3 : Int32} {a4 : Int32} {h : AH} (hf : b_X0_actionsOn_62 r5 a0 a1 a2 a3 a4 h = some (v, hE)) : JD cX0_actionsOn 6 RX0 "actionsOn" (some .int) (2) 62 [(0, .inr (.inr (a0))), (1, .inl (a1)), (2, .inl (a2)), (3, .inl (a3)), (4, .inl (a4))] [] h hE (some (.inl (v))) := by
  unfold b_X0_actionsOn_62 at hf
  have J := hr5 _ _ _ _ _ _ hf
  have mE := J.1
  refine ⟨by omega, fun X g K ok nmx lev hK en => ?_⟩
  refine tj_iinc (lv' := [(0, .inr (.inr (a0))), (1, .inl (a1)), (2, .inl (a2)), (3, .inl (a3)), (4, .inl (a4 + (1 : Int32)))]) ok 4 dX0_actionsOn_62 rfl (rfl) (by decide) rfl ?_
  refine tj_goto (tgt := 5) ok dX0_actionsOn_65 (by decide) ?_
  exact J.2 X g K ok nmx lev hK en
def b_X0_actionsOn_55 (r5 : Nat → Int32 → Int32 → Int32 → Int32 → AH → Option (Int32 × AH)) (a0 : Nat) (a1 : Int32) (a2 : Int32) (a3 : Int32) (a4 : Int32) (h : AH) : Option (Int32 × AH) :=
  b_X0_actionsOn_62 r5 a0 a1 a2 (a3 ||| ((1 : Int32) <<< (a4 &&& 31))) a4 h
set_option maxHeartbeats 4000000 in
set_option maxRecDepth 100000 in
theorem q_X0_actionsOn_55 {hE : AH} {v : Int32} {r5 : Nat → Int32 → Int32 → Int32 → Int32 → AH → Option (Int32 × AH)} (hr5 : ∀ (b0 : Nat) (b1 : Int32) (b2 : Int32) (b3 : Int32) (b4 : Int32) (h : AH), r5 b0 b1 b2 b3 b4 h = some (v, hE) → JD cX0_actionsOn 6 RX0 "actionsOn" (some .int) (2) 5 [(0, .inr (.inr (b0))), (1, .inl (b1)), (2, .inl (b2)), (3, .inl (b3)), (4, .inl (b4))] [] h hE (some (.inl (v)))) {a0 : Nat} {a1 : Int32} {a2 : Int32} {a3 : Int32} {a4 : Int32} {h : AH} (hf : b_X0_actionsOn_55 r5 a0 a1 a2 a3 a4 h = some (v, hE)) : JD cX0_actionsOn 6 RX0 "actionsOn" (some .int) (2) 55 [(0, .inr (.inr (a0))), (1, .inl (a1)), (2, .inl (a2)), (3, .inl (a3)), (4, .inl (a4))] [] h hE (some (.inl (v))) := by
  unfold b_X0_actionsOn_55 at hf
  have J := q_X0_actionsOn_62 hr5 hf
  have mE := J.1
  refine ⟨by omega, fun X g K ok nmx lev hK en => ?_⟩
  refine tj_iload_n ok 3 dX0_actionsOn_55 rfl rfl ?_
  refine tj_iconst (v := 1) ok dX0_actionsOn_56 (by decide) ?_
  refine tj_iload ok 4 dX0_actionsOn_57 rfl ?_
  refine tj_ishl ok dX0_actionsOn_59 ?_
  refine tj_ior ok dX0_actionsOn_60 ?_
  refine tj_istore_n (lv' := [(0, .inr (.inr (a0))), (1, .inl (a1)), (2, .inl (a2)), (3, .inl (a3 ||| ((1 : Int32) <<< (a4 &&& 31)))), (4, .inl (a4))]) ok dX0_actionsOn_61 rfl (by decide) rfl ?_
  exact J.2 X g K ok nmx lev hK en
def b_X0_actionsOn_44 (r5 : Nat → Int32 → Int32 → Int32 → Int32 → AH → Option (Int32 × AH)) (a0 : Nat) (a1 : Int32) (a2 : Int32) (a3 : Int32) (a4 : Int32) (a5 : Int32) (h : AH) : Option (Int32 × AH) :=
  (g_r h a0 0 4).bind fun x1 => (l_i h x1 a5).bind fun x2 => if x2 = a2 then b_X0_actionsOn_55 r5 a0 a1 a2 a3 a4 h else b_X0_actionsOn_62 r5 a0 a1 a2 a3 a4 h
set_option maxHeartbeats 4000000 in
set_option maxRecDepth 100000 in
theorem q_X0_actionsOn_44 {hE : AH} {v : Int32} {r5 : Nat → Int32 → Int32 → Int32 → Int32 → AH → Option (Int32 × AH)} (hr5 : ∀ (b0 : Nat) (b1 : Int32) (b2 : Int32) (b3 : Int32) (b4 : Int32) (h : AH), r5 b0 b1 b2 b3 b4 h = some (v, hE) → JD cX0_actionsOn 6 RX0 "actionsOn" (some .int) (2) 5 [(0, .inr (.inr (b0))), (1, .inl (b1)), (2, .inl (b2)), (3, .inl (b3)), (4, .inl (b4))] [] h hE (some (.inl (v)))) {a0 : Nat} {a1 : Int32} {a2 : Int32} {a3 : Int32} {a4 : Int32} {a5 : Int32} {h : AH} (hf : b_X0_actionsOn_44 r5 a0 a1 a2 a3 a4 a5 h = some (v, hE)) : JD cX0_actionsOn 6 RX0 "actionsOn" (some .int) (2) 44 [(0, .inr (.inr (a0))), (1, .inl (a1)), (2, .inl (a2)), (3, .inl (a3)), (4, .inl (a4)), (5, .inl (a5))] [] h hE (some (.inl (v))) := by
  unfold b_X0_actionsOn_44 at hf
  obtain ⟨x1, e1, hf⟩ := bnd hf
  obtain ⟨x2, e2, hf⟩ := bnd hf
  have mE : hp_n h ≤ hp_n hE ∧ hp_s h ≤ hp_s hE := by
    by_cases hc : x2 = a2
    · rw [if_pos hc] at hf; exact (q_X0_actionsOn_55 hr5 hf).1
    · rw [if_neg hc] at hf; exact (q_X0_actionsOn_62 hr5 hf).1
  refine ⟨by omega, fun X g K ok nmx lev hK en => ?_⟩
  refine tj_aload_n ok 0 dX0_actionsOn_44 rfl rfl ?_
  refine tj_getR (k := 4) ok fcX0 (by decide) wm_57 rfl (Or.inr ⟨_, rfl⟩) dX0_actionsOn_45 e1 ?_
  refine tj_iload ok 5 dX0_actionsOn_48 rfl ?_
  refine tj_iaload ok dX0_actionsOn_50 e2 ?_
  refine tj_iload_n ok 2 dX0_actionsOn_51 rfl rfl ?_
  refine tj_icmp_ne (tgt := 62) ok dX0_actionsOn_52 (by decide) (fun hc => ?_) (fun hc => ?_)
  · rw [if_neg hc] at hf
    refine tj_sub (lv' := [(0, .inr (.inr (a0))), (1, .inl (a1)), (2, .inl (a2)), (3, .inl (a3)), (4, .inl (a4))]) [0, 1, 2, 3, 4] rfl ?_
    exact (q_X0_actionsOn_62 hr5 hf).2 X g K ok nmx lev hK en
  · rw [if_pos hc] at hf
    refine tj_sub (lv' := [(0, .inr (.inr (a0))), (1, .inl (a1)), (2, .inl (a2)), (3, .inl (a3)), (4, .inl (a4))]) [0, 1, 2, 3, 4] rfl ?_
    exact (q_X0_actionsOn_55 hr5 hf).2 X g K ok nmx lev hK en
def b_X0_actionsOn_21 (r5 : Nat → Int32 → Int32 → Int32 → Int32 → AH → Option (Int32 × AH)) (a0 : Nat) (a1 : Int32) (a2 : Int32) (a3 : Int32) (a4 : Int32) (h : AH) : Option (Int32 × AH) :=
  (g_r h a0 0 8).bind fun x1 => (l_i h x1 a4).bind fun x2 => (g_r h a0 0 0).bind fun x3 => (l_i h x3 (x2 &&& (63 : Int32))).bind fun x4 => if x4 = a1 then b_X0_actionsOn_44 r5 a0 a1 a2 a3 a4 (x2 &&& (63 : Int32)) h else b_X0_actionsOn_62 r5 a0 a1 a2 a3 a4 h
set_option maxHeartbeats 4000000 in
set_option maxRecDepth 100000 in
theorem q_X0_actionsOn_21 {hE : AH} {v : Int32} {r5 : Nat → Int32 → Int32 → Int32 → Int32 → AH → Option (Int32 × AH)} (hr5 : ∀ (b0 : Nat) (b1 : Int32) (b2 : Int32) (b3 : Int32) (b4 : Int32) (h : AH), r5 b0 b1 b2 b3 b4 h = some (v, hE) → JD cX0_actionsOn 6 RX0 "actionsOn" (some .int) (2) 5 [(0, .inr (.inr (b0))), (1, .inl (b1)), (2, .inl (b2)), (3, .inl (b3)), (4, .inl (b4))] [] h hE (some (.inl (v)))) {a0 : Nat} {a1 : Int32} {a2 : Int32} {a3 : Int32} {a4 : Int32} {h : AH} (hf : b_X0_actionsOn_21 r5 a0 a1 a2 a3 a4 h = some (v, hE)) : JD cX0_actionsOn 6 RX0 "actionsOn" (some .int) (2) 21 [(0, .inr (.inr (a0))), (1, .inl (a1)), (2, .inl (a2)), (3, .inl (a3)), (4, .inl (a4))] [] h hE (some (.inl (v))) := by
  unfold b_X0_actionsOn_21 at hf
  obtain ⟨x1, e1, hf⟩ := bnd hf
  obtain ⟨x2, e2, hf⟩ := bnd hf
  obtain ⟨x3, e3, hf⟩ := bnd hf
  obtain ⟨x4, e4, hf⟩ := bnd hf
  have mE : hp_n h ≤ hp_n hE ∧ hp_s h ≤ hp_s hE := by
    by_cases hc : x4 = a1
    · rw [if_pos hc] at hf; exact (q_X0_actionsOn_44 hr5 hf).1
    · rw [if_neg hc] at hf; exact (q_X0_actionsOn_62 hr5 hf).1
  refine ⟨by omega, fun X g K ok nmx lev hK en => ?_⟩
  refine tj_aload_n ok 0 dX0_actionsOn_21 rfl rfl ?_
  refine tj_getR (k := 8) ok fcX0 (by decide) wm_58 rfl (Or.inr ⟨_, rfl⟩) dX0_actionsOn_22 e1 ?_
  refine tj_iload ok 4 dX0_actionsOn_25 rfl ?_
  refine tj_iaload ok dX0_actionsOn_27 e2 ?_
  refine tj_bipush (v := 63) ok dX0_actionsOn_28 (by decide) ?_
  refine tj_iand ok dX0_actionsOn_30 ?_
  refine tj_istore (lv' := [(0, .inr (.inr (a0))), (1, .inl (a1)), (2, .inl (a2)), (3, .inl (a3)), (4, .inl (a4)), (5, .inl (x2 &&& (63 : Int32)))]) ok dX0_actionsOn_31 (by decide) rfl ?_
  refine tj_aload_n ok 0 dX0_actionsOn_33 rfl rfl ?_
  refine tj_getR (k := 0) ok fcX0 (by decide) wm_59 rfl (Or.inr ⟨_, rfl⟩) dX0_actionsOn_34 e3 ?_
  refine tj_iload ok 5 dX0_actionsOn_37 rfl ?_
  refine tj_iaload ok dX0_actionsOn_39 e4 ?_
  refine tj_iload_n ok 1 dX0_actionsOn_40 rfl rfl ?_
  refine tj_icmp_ne (tgt := 62) ok dX0_actionsOn_41 (by decide) (fun hc => ?_) (fun hc => ?_)
  · rw [if_neg hc] at hf
    refine tj_sub (lv' := [(0, .inr (.inr (a0))), (1, .inl (a1)), (2, .inl (a2)), (3, .inl (a3)), (4, .inl (a4))]) [0, 1, 2, 3, 4] rfl ?_
    exact (q_X0_actionsOn_62 hr5 hf).2 X g K ok nmx lev hK en
  · rw [if_pos hc] at hf
    exact (q_X0_actionsOn_44 hr5 hf).2 X g K ok nmx lev hK en
def b_X0_actionsOn_14 (r5 : Nat → Int32 → Int32 → Int32 → Int32 → AH → Option (Int32 × AH)) (a0 : Nat) (a1 : Int32) (a2 : Int32) (a3 : Int32) (a4 : Int32) (h : AH) : Option (Int32 × AH) :=
  if (8 : Int32) ≤ a4 then b_X0_actionsOn_68 a3 h else b_X0_actionsOn_21 r5 a0 a1 a2 a3 a4 h
set_option maxHeartbeats 4000000 in
set_option maxRecDepth 100000 in
theorem q_X0_actionsOn_14 {hE : AH} {v : Int32} {r5 : Nat → Int32 → Int32 → Int32 → Int32 → AH → Option (Int32 × AH)} (hr5 : ∀ (b0 : Nat) (b1 : Int32) (b2 : Int32) (b3 : Int32) (b4 : Int32) (h : AH), r5 b0 b1 b2 b3 b4 h = some (v, hE) → JD cX0_actionsOn 6 RX0 "actionsOn" (some .int) (2) 5 [(0, .inr (.inr (b0))), (1, .inl (b1)), (2, .inl (b2)), (3, .inl (b3)), (4, .inl (b4))] [] h hE (some (.inl (v)))) {a0 : Nat} {a1 : Int32} {a2 : Int32} {a3 : Int32} {a4 : Int32} {h : AH} (hf : b_X0_actionsOn_14 r5 a0 a1 a2 a3 a4 h = some (v, hE)) : JD cX0_actionsOn 6 RX0 "actionsOn" (some .int) (2) 14 [(0, .inr (.inr (a0))), (1, .inl (a1)), (2, .inl (a2)), (3, .inl (a3)), (4, .inl (a4))] [] h hE (some (.inl (v))) := by
  unfold b_X0_actionsOn_14 at hf
  have mE : hp_n h ≤ hp_n hE ∧ hp_s h ≤ hp_s hE := by
    by_cases hc : (8 : Int32) ≤ a4
    · rw [if_pos hc] at hf; exact (q_X0_actionsOn_68 hf).1
    · rw [if_neg hc] at hf; exact (q_X0_actionsOn_21 hr5 hf).1
  refine ⟨by omega, fun X g K ok nmx lev hK en => ?_⟩
  refine tj_iload ok 4 dX0_actionsOn_14 rfl ?_
  refine tj_bipush (v := 8) ok dX0_actionsOn_16 (by decide) ?_
  refine tj_icmp_ge (tgt := 68) ok dX0_actionsOn_18 (by decide) (fun hc => ?_) (fun hc => ?_)
  · rw [if_pos hc] at hf
    refine tj_sub (lv' := [(3, .inl (a3))]) [3] rfl ?_
    exact (q_X0_actionsOn_68 hf).2 X g K ok nmx lev hK en
  · rw [if_neg hc] at hf
    exact (q_X0_actionsOn_21 hr5 hf).2 X g K ok nmx lev hK en
def b_X0_actionsOn_5 (r5 : Nat → Int32 → Int32 → Int32 → Int32 → AH → Option (Int32 × AH)) (a0 : Nat) (a1 : Int32) (a2 : Int32) (a3 : Int32) (a4 : Int32) (h : AH) : Option (Int32 × AH) :=
  (g_i h a0 0 12).bind fun x1 => if x1 ≤ a4 then b_X0_actionsOn_68 a3 h else b_X0_actionsOn_14 r5 a0 a1 a2 a3 a4 h
set_option maxHeartbeats 4000000 in
set_option maxRecDepth 100000 in
theorem q_X0_actionsOn_5 {hE : AH} {v : Int32} {r5 : Nat → Int32 → Int32 → Int32 → Int32 → AH → Option (Int32 × AH)} (hr5 : ∀ (b0 : Nat) (b1 : Int32) (b2 : Int32) (b3 : Int32) (b4 : Int32) (h : AH), r5 b0 b1 b2 b3 b4 h = some (v, hE) → JD cX0_actionsOn 6 RX0 "actionsOn" (some .int) (2) 5 [(0, .inr (.inr (b0))), (1, .inl (b1)), (2, .inl (b2)), (3, .inl (b3)), (4, .inl (b4))] [] h hE (some (.inl (v)))) {a0 : Nat} {a1 : Int32} {a2 : Int32} {a3 : Int32} {a4 : Int32} {h : AH} (hf : b_X0_actionsOn_5 r5 a0 a1 a2 a3 a4 h = some (v, hE)) : JD cX0_actionsOn 6 RX0 "actionsOn" (some .int) (2) 5 [(0, .inr (.inr (a0))), (1, .inl (a1)), (2, .inl (a2)), (3, .inl (a3)), (4, .inl (a4))] [] h hE (some (.inl (v))) := by
  unfold b_X0_actionsOn_5 at hf
  obtain ⟨x1, e1, hf⟩ := bnd hf
  have mE : hp_n h ≤ hp_n hE ∧ hp_s h ≤ hp_s hE := by
    by_cases hc : x1 ≤ a4
    · rw [if_pos hc] at hf; exact (q_X0_actionsOn_68 hf).1
    · rw [if_neg hc] at hf; exact (q_X0_actionsOn_14 hr5 hf).1
  refine ⟨by omega, fun X g K ok nmx lev hK en => ?_⟩
  refine tj_iload ok 4 dX0_actionsOn_5 rfl ?_
  refine tj_aload_n ok 0 dX0_actionsOn_7 rfl rfl ?_
  refine tj_getI (k := 12) ok fcX0 (by decide) wm_60 rfl (Or.inl rfl) dX0_actionsOn_8 e1 ?_
  refine tj_icmp_ge (tgt := 68) ok dX0_actionsOn_11 (by decide) (fun hc => ?_) (fun hc => ?_)
  · rw [if_pos hc] at hf
    refine tj_sub (lv' := [(3, .inl (a3))]) [3] rfl ?_
    exact (q_X0_actionsOn_68 hf).2 X g K ok nmx lev hK en
  · rw [if_neg hc] at hf
    exact (q_X0_actionsOn_14 hr5 hf).2 X g K ok nmx lev hK en
def l_X0_actionsOn_5 : Nat → Nat → Int32 → Int32 → Int32 → Int32 → AH → Option (Int32 × AH)
  | 0 => fun _ _ _ _ _ _ => none
  | n + 1 => fun a0 a1 a2 a3 a4 h => b_X0_actionsOn_5 (l_X0_actionsOn_5 n) a0 a1 a2 a3 a4 h
theorem ql_X0_actionsOn_5 {n : Nat} {a0 : Nat} {a1 : Int32} {a2 : Int32} {a3 : Int32} {a4 : Int32} {h hE : AH} {v : Int32} (hf : l_X0_actionsOn_5 n a0 a1 a2 a3 a4 h = some (v, hE)) : JD cX0_actionsOn 6 RX0 "actionsOn" (some .int) (2) 5 [(0, .inr (.inr (a0))), (1, .inl (a1)), (2, .inl (a2)), (3, .inl (a3)), (4, .inl (a4))] [] h hE (some (.inl (v))) := by
  induction n generalizing a0 a1 a2 a3 a4 h with
  | zero => cases hf
  | succ n ih => exact q_X0_actionsOn_5 (fun _ _ _ _ _ _ hf => ih hf) hf
def b_X0_actionsOn_0 (a0 : Nat) (a1 : Int32) (a2 : Int32) (h : AH) : Option (Int32 × AH) :=
  l_X0_actionsOn_5 fu_ a0 a1 a2 (0 : Int32) (0 : Int32) h
set_option maxHeartbeats 4000000 in
set_option maxRecDepth 100000 in
theorem q_X0_actionsOn_0 {a0 : Nat} {a1 : Int32} {a2 : Int32} {h hE : AH} {v : Int32} (hf : b_X0_actionsOn_0 a0 a1 a2 h = some (v, hE)) : JD cX0_actionsOn 6 RX0 "actionsOn" (some .int) (2) 0 [(0, .inr (.inr (a0))), (1, .inl (a1)), (2, .inl (a2))] [] h hE (some (.inl (v))) := by
  unfold b_X0_actionsOn_0 at hf
  have J := ql_X0_actionsOn_5 hf
  have mE := J.1
  refine ⟨by omega, fun X g K ok nmx lev hK en => ?_⟩
  refine tj_iconst (v := 0) ok dX0_actionsOn_0 (by decide) ?_
  refine tj_istore_n (lv' := [(0, .inr (.inr (a0))), (1, .inl (a1)), (2, .inl (a2)), (3, .inl ((0 : Int32)))]) ok dX0_actionsOn_1 rfl (by decide) rfl ?_
  refine tj_iconst (v := 0) ok dX0_actionsOn_2 (by decide) ?_
  refine tj_istore (lv' := [(0, .inr (.inr (a0))), (1, .inl (a1)), (2, .inl (a2)), (3, .inl ((0 : Int32))), (4, .inl ((0 : Int32)))]) ok dX0_actionsOn_3 (by decide) rfl ?_
  exact J.2 X g K ok nmx lev hK en
def f_X0_actionsOn (a0 : Nat) (a1 : Int32) (a2 : Int32) (h : AH) : Option (Int32 × AH) := b_X0_actionsOn_0  a0 a1 a2 h
theorem c_X0_actionsOn {a0 : Nat} {a1 : Int32} {a2 : Int32} {h hE : AH} {v : Int32} (hf : f_X0_actionsOn a0 a1 a2 h = some (v, hE)) : ∀ g : GT, CM g (2) yX0_actionsOn cX0_actionsOn 6 (some .int) h [.inr (.inr (a0)), .inl (a1), .inl (a2)] hE (some (.inl (v))) :=
  CM.ofJ (by decide) (by show _ ≤ 6; exact Nat.le_of_ble_eq_true rfl) (q_X0_actionsOn_0 hf)
/-! ===== LitmusHouse$Code.add(IIIII)I ===== -/
def b_X0_add_0 (a0 : Nat) (a1 : Int32) (a2 : Int32) (a3 : Int32) (a4 : Int32) (a5 : Int32) (h : AH) : Option (Int32 × AH) :=
  (g_i h a0 0 10).bind fun x1 => (g_r h a0 0 0).bind fun x2 => (s_i h x2 (x1 &&& (63 : Int32)) a1).bind fun h3 => (g_r h3 a0 0 1).bind fun x4 => (s_i h3 x4 (x1 &&& (63 : Int32)) a2).bind fun h5 => (g_r h5 a0 0 2).bind fun x6 => (s_i h5 x6 (x1 &&& (63 : Int32)) a3).bind fun h7 => (g_r h7 a0 0 3).bind fun x8 => (s_i h7 x8 (x1 &&& (63 : Int32)) a4).bind fun h9 => (g_r h9 a0 0 4).bind fun x10 => (s_i h9 x10 (x1 &&& (63 : Int32)) a5).bind fun h11 => (g_r h11 a0 0 6).bind fun x12 => (s_i h11 x12 (x1 &&& (63 : Int32)) (-1 : Int32)).bind fun h13 => (g_i h13 a0 0 10).bind fun x14 => (p_i h13 a0 0 10 (mn_i (x14 + (1 : Int32)) (64 : Int32))).bind fun h15 => some (x1 &&& (63 : Int32), h15)
set_option maxHeartbeats 4000000 in
set_option maxRecDepth 100000 in
theorem q_X0_add_0 {a0 : Nat} {a1 : Int32} {a2 : Int32} {a3 : Int32} {a4 : Int32} {a5 : Int32} {h hE : AH} {v : Int32} (hf : b_X0_add_0 a0 a1 a2 a3 a4 a5 h = some (v, hE)) : JD cX0_add 7 RX0 "add" (some .int) (2) 0 [(0, .inr (.inr (a0))), (1, .inl (a1)), (2, .inl (a2)), (3, .inl (a3)), (4, .inl (a4)), (5, .inl (a5))] [] h hE (some (.inl (v))) := by
  unfold b_X0_add_0 at hf
  obtain ⟨x1, e1, hf⟩ := bnd hf
  obtain ⟨x2, e2, hf⟩ := bnd hf
  obtain ⟨h3, e3, hf⟩ := bnd hf
  have m3 := nn_si e3
  obtain ⟨x4, e4, hf⟩ := bnd hf
  obtain ⟨h5, e5, hf⟩ := bnd hf
  have m5 := nn_si e5
  obtain ⟨x6, e6, hf⟩ := bnd hf
  obtain ⟨h7, e7, hf⟩ := bnd hf
  have m7 := nn_si e7
  obtain ⟨x8, e8, hf⟩ := bnd hf
  obtain ⟨h9, e9, hf⟩ := bnd hf
  have m9 := nn_si e9
  obtain ⟨x10, e10, hf⟩ := bnd hf
  obtain ⟨h11, e11, hf⟩ := bnd hf
  have m11 := nn_si e11
  obtain ⟨x12, e12, hf⟩ := bnd hf
  obtain ⟨h13, e13, hf⟩ := bnd hf
  have m13 := nn_si e13
  obtain ⟨x14, e14, hf⟩ := bnd hf
  obtain ⟨h15, e15, hf⟩ := bnd hf
  have m15 := nn_pi e15
  obtain ⟨hv, hh⟩ := Prod.mk.inj (Option.some.inj hf)
  subst hv
  subst hh
  have mE : hp_n h15 ≤ hp_n h15 ∧ hp_s h15 ≤ hp_s h15 := ⟨Nat.le_refl _, Nat.le_refl _⟩
  refine ⟨by omega, fun X g K ok nmx lev hK en => ?_⟩
  refine tj_aload_n ok 0 dX0_add_0 rfl rfl ?_
  refine tj_getI (k := 10) ok fcX0 (by decide) wm_62 rfl (Or.inl rfl) dX0_add_1 e1 ?_
  refine tj_bipush (v := 63) ok dX0_add_4 (by decide) ?_
  refine tj_iand ok dX0_add_6 ?_
  refine tj_istore (lv' := [(0, .inr (.inr (a0))), (1, .inl (a1)), (2, .inl (a2)), (3, .inl (a3)), (4, .inl (a4)), (5, .inl (a5)), (6, .inl (x1 &&& (63 : Int32)))]) ok dX0_add_7 (by decide) rfl ?_
  refine tj_aload_n ok 0 dX0_add_9 rfl rfl ?_
  refine tj_getR (k := 0) ok fcX0 (by decide) wm_59 rfl (Or.inr ⟨_, rfl⟩) dX0_add_10 e2 ?_
  refine tj_iload ok 6 dX0_add_13 rfl ?_
  refine tj_iload_n ok 1 dX0_add_15 rfl rfl ?_
  refine tj_iastore ok dX0_add_16 e3 ?_
  refine tj_aload_n ok 0 dX0_add_17 rfl rfl ?_
  refine tj_getR (k := 1) ok fcX0 (by decide) wm_63 rfl (Or.inr ⟨_, rfl⟩) dX0_add_18 e4 ?_
  refine tj_iload ok 6 dX0_add_21 rfl ?_
  refine tj_iload_n ok 2 dX0_add_23 rfl rfl ?_
  refine tj_iastore ok dX0_add_24 e5 ?_
  refine tj_aload_n ok 0 dX0_add_25 rfl rfl ?_
  refine tj_getR (k := 2) ok fcX0 (by decide) wm_64 rfl (Or.inr ⟨_, rfl⟩) dX0_add_26 e6 ?_
  refine tj_iload ok 6 dX0_add_29 rfl ?_
  refine tj_iload_n ok 3 dX0_add_31 rfl rfl ?_
  refine tj_iastore ok dX0_add_32 e7 ?_
  refine tj_aload_n ok 0 dX0_add_33 rfl rfl ?_
  refine tj_getR (k := 3) ok fcX0 (by decide) wm_65 rfl (Or.inr ⟨_, rfl⟩) dX0_add_34 e8 ?_
  refine tj_iload ok 6 dX0_add_37 rfl ?_
  refine tj_iload ok 4 dX0_add_39 rfl ?_
  refine tj_iastore ok dX0_add_41 e9 ?_
  refine tj_aload_n ok 0 dX0_add_42 rfl rfl ?_
  refine tj_getR (k := 4) ok fcX0 (by decide) wm_57 rfl (Or.inr ⟨_, rfl⟩) dX0_add_43 e10 ?_
  refine tj_iload ok 6 dX0_add_46 rfl ?_
  refine tj_iload ok 5 dX0_add_48 rfl ?_
  refine tj_iastore ok dX0_add_50 e11 ?_
  refine tj_aload_n ok 0 dX0_add_51 rfl rfl ?_
  refine tj_getR (k := 6) ok fcX0 (by decide) wm_66 rfl (Or.inr ⟨_, rfl⟩) dX0_add_52 e12 ?_
  refine tj_iload ok 6 dX0_add_55 rfl ?_
  refine tj_iconst (v := -1) ok dX0_add_57 (by decide) ?_
  refine tj_iastore ok dX0_add_58 e13 ?_
  refine tj_aload_n ok 0 dX0_add_59 rfl rfl ?_
  refine tj_aload_n ok 0 dX0_add_60 rfl rfl ?_
  refine tj_getI (k := 10) ok fcX0 (by decide) wm_62 rfl (Or.inl rfl) dX0_add_61 e14 ?_
  refine tj_iconst (v := 1) ok dX0_add_64 (by decide) ?_
  refine tj_iadd ok dX0_add_65 ?_
  refine tj_bipush (v := 64) ok dX0_add_66 (by decide) ?_
  refine tj_min (rest := ([.inr (.inr (a0))] : List TV).map (vl g)) ok lev (by omega) (CaX.of en (by omega)) wm_67 wm_41 wm_42 wm_43 (rs_ok (Nat.le_of_ble_eq_true rfl)) dX0_add_68 ?_
  refine tj_putI (k := 10) ok fcX0 (by decide) wm_62 rfl (Or.inl rfl) rfl dX0_add_71 e15 ?_
  refine tj_iload ok 6 dX0_add_74 rfl ?_
  exact tj_ireturn ok en dX0_add_76
def f_X0_add (a0 : Nat) (a1 : Int32) (a2 : Int32) (a3 : Int32) (a4 : Int32) (a5 : Int32) (h : AH) : Option (Int32 × AH) := b_X0_add_0  a0 a1 a2 a3 a4 a5 h
theorem c_X0_add {a0 : Nat} {a1 : Int32} {a2 : Int32} {a3 : Int32} {a4 : Int32} {a5 : Int32} {h hE : AH} {v : Int32} (hf : f_X0_add a0 a1 a2 a3 a4 a5 h = some (v, hE)) : ∀ g : GT, CM g (2) yX0_add cX0_add 7 (some .int) h [.inr (.inr (a0)), .inl (a1), .inl (a2), .inl (a3), .inl (a4), .inl (a5)] hE (some (.inl (v))) :=
  CM.ofJ (by decide) (by show _ ≤ 7; exact Nat.le_of_ble_eq_true rfl) (q_X0_add_0 hf)
/-! ===== LitmusHouse$Code.addAction(IIIIII)V ===== -/
def b_X0_addAction_65  (h : AH) : Option (AH) :=
  some h
set_option maxHeartbeats 4000000 in
set_option maxRecDepth 100000 in
theorem q_X0_addAction_65 {h hE : AH} (hf : b_X0_addAction_65  h = some hE) : JD cX0_addAction 8 RX0 "addAction" none (3) 65 [] [] h hE none := by
  unfold b_X0_addAction_65 at hf
  have hh := Option.some.inj hf
  subst hh
  have mE : hp_n h ≤ hp_n h ∧ hp_s h ≤ hp_s h := ⟨Nat.le_refl _, Nat.le_refl _⟩
  refine ⟨by omega, fun X g K ok nmx lev hK en => ?_⟩
  exact tj_return ok en dX0_addAction_65
def b_X0_addAction_23 (a0 : Nat) (a1 : Int32) (a7 : Int32) (h : AH) : Option (AH) :=
  (g_r h a0 0 6).bind fun x1 => (g_i h a0 0 12).bind fun x2 => (s_i h x1 a7 x2).bind fun h3 => (g_r h3 a0 0 8).bind fun x4 => (g_i h3 a0 0 12).bind fun x5 => (s_i h3 x4 x5 a7).bind fun h6 => (g_r h6 a0 0 9).bind fun x7 => (g_i h6 a0 0 12).bind fun x8 => (s_i h6 x7 x8 a1).bind fun h9 => (g_i h9 a0 0 12).bind fun x10 => (p_i h9 a0 0 12 (x10 + (1 : Int32))).bind fun h11 => b_X0_addAction_65 h11
set_option maxHeartbeats 4000000 in
set_option maxRecDepth 100000 in
theorem q_X0_addAction_23 {a0 : Nat} {a1 : Int32} {a7 : Int32} {h hE : AH} (hf : b_X0_addAction_23 a0 a1 a7 h = some hE) : JD cX0_addAction 8 RX0 "addAction" none (3) 23 [(0, .inr (.inr (a0))), (1, .inl (a1)), (7, .inl (a7))] [] h hE none := by
  unfold b_X0_addAction_23 at hf
  obtain ⟨x1, e1, hf⟩ := bnd hf
  obtain ⟨x2, e2, hf⟩ := bnd hf
  obtain ⟨h3, e3, hf⟩ := bnd hf
  have m3 := nn_si e3
  obtain ⟨x4, e4, hf⟩ := bnd hf
  obtain ⟨x5, e5, hf⟩ := bnd hf
  obtain ⟨h6, e6, hf⟩ := bnd hf
  have m6 := nn_si e6
  obtain ⟨x7, e7, hf⟩ := bnd hf
  obtain ⟨x8, e8, hf⟩ := bnd hf
  obtain ⟨h9, e9, hf⟩ := bnd hf
  have m9 := nn_si e9
  obtain ⟨x10, e10, hf⟩ := bnd hf
  obtain ⟨h11, e11, hf⟩ := bnd hf
  have m11 := nn_pi e11
  have J := q_X0_addAction_65 hf
  have mE := J.1
  refine ⟨by omega, fun X g K ok nmx lev hK en => ?_⟩
  refine tj_aload_n ok 0 dX0_addAction_23 rfl rfl ?_
  refine tj_getR (k := 6) ok fcX0 (by decide) wm_66 rfl (Or.inr ⟨_, rfl⟩) dX0_addAction_24 e1 ?_
  refine tj_iload ok 2 dX0_addAction_27 rfl ?_
  refine tj_aload_n ok 0 dX0_addAction_29 rfl rfl ?_
  refine tj_getI (k := 12) ok fcX0 (by decide) wm_60 rfl (Or.inl rfl) dX0_addAction_30 e2 ?_
  refine tj_iastore ok dX0_addAction_33 e3 ?_
  refine tj_aload_n ok 0 dX0_addAction_34 rfl rfl ?_
  refine tj_getR (k := 8) ok fcX0 (by decide) wm_58 rfl (Or.inr ⟨_, rfl⟩) dX0_addAction_35 e4 ?_
  refine tj_aload_n ok 0 dX0_addAction_38 rfl rfl ?_
  refine tj_getI (k := 12) ok fcX0 (by decide) wm_60 rfl (Or.inl rfl) dX0_addAction_39 e5 ?_
  refine tj_iload ok 2 dX0_addAction_42 rfl ?_
  refine tj_iastore ok dX0_addAction_44 e6 ?_
  refine tj_aload_n ok 0 dX0_addAction_45 rfl rfl ?_
  refine tj_getR (k := 9) ok fcX0 (by decide) wm_69 rfl (Or.inr ⟨_, rfl⟩) dX0_addAction_46 e7 ?_
  refine tj_aload_n ok 0 dX0_addAction_49 rfl rfl ?_
  refine tj_getI (k := 12) ok fcX0 (by decide) wm_60 rfl (Or.inl rfl) dX0_addAction_50 e8 ?_
  refine tj_iload_n ok 1 dX0_addAction_53 rfl rfl ?_
  refine tj_iastore ok dX0_addAction_54 e9 ?_
  refine tj_aload_n ok 0 dX0_addAction_55 rfl rfl ?_
  refine tj_dupa ok dX0_addAction_56 ?_
  refine tj_getI (k := 12) ok fcX0 (by decide) wm_60 rfl (Or.inl rfl) dX0_addAction_57 e10 ?_
  refine tj_iconst (v := 1) ok dX0_addAction_60 (by decide) ?_
  refine tj_iadd ok dX0_addAction_61 ?_
  refine tj_putI (k := 12) ok fcX0 (by decide) wm_60 rfl (Or.inl rfl) rfl dX0_addAction_62 e11 ?_
  refine tj_sub (lv' := []) [] rfl ?_
  exact J.2 X g K ok nmx lev hK en
def b_X0_addAction_0 (a0 : Nat) (a1 : Int32) (a2 : Int32) (a3 : Int32) (a4 : Int32) (a5 : Int32) (a6 : Int32) (h : AH) : Option (AH) :=
  (ok_v h a0 0).bind fun x1 => (f_X0_add a0 a2 a3 a4 a5 a6 h).bind fun q2 => (g_i q2.2 a0 0 12).bind fun x3 => if (8 : Int32) ≤ x3 then b_X0_addAction_65 q2.2 else b_X0_addAction_23 a0 a1 q2.1 q2.2
set_option maxHeartbeats 4000000 in
set_option maxRecDepth 100000 in
theorem q_X0_addAction_0 {a0 : Nat} {a1 : Int32} {a2 : Int32} {a3 : Int32} {a4 : Int32} {a5 : Int32} {a6 : Int32} {h hE : AH} (hf : b_X0_addAction_0 a0 a1 a2 a3 a4 a5 a6 h = some hE) : JD cX0_addAction 8 RX0 "addAction" none (3) 0 [(0, .inr (.inr (a0))), (1, .inl (a1)), (2, .inl (a2)), (3, .inl (a3)), (4, .inl (a4)), (5, .inl (a5)), (6, .inl (a6))] [] h hE none := by
  unfold b_X0_addAction_0 at hf
  obtain ⟨x1, e1, hf⟩ := bnd hf
  obtain ⟨⟨x2, h2⟩, e2, hf⟩ := bnd hf
  try dsimp only at hf
  have k2 := c_X0_add e2
  have m2 := (k2 default_g).1
  obtain ⟨x3, e3, hf⟩ := bnd hf
  have mE : hp_n h2 ≤ hp_n hE ∧ hp_s h2 ≤ hp_s hE := by
    by_cases hc : (8 : Int32) ≤ x3
    · rw [if_pos hc] at hf; exact (q_X0_addAction_65 hf).1
    · rw [if_neg hc] at hf; exact (q_X0_addAction_23 hf).1
  refine ⟨by omega, fun X g K ok nmx lev hK en => ?_⟩
  refine tj_aload_n ok 0 dX0_addAction_0 rfl rfl ?_
  refine tj_iload_n ok 2 dX0_addAction_1 rfl rfl ?_
  refine tj_iload_n ok 3 dX0_addAction_2 rfl rfl ?_
  refine tj_iload ok 4 dX0_addAction_3 rfl ?_
  refine tj_iload ok 5 dX0_addAction_5 rfl ?_
  refine tj_iload ok 6 dX0_addAction_7 rfl ?_
  refine tj_callV (rest := ([] : List TV).map (vl g)) (as := [.inl (a2), .inl (a3), .inl (a4), .inl (a5), .inl (a6)]) ok lev (by omega) fcX0.1 (by decide) rfl (of_if e1).1 (k2 g) (CaX.of en (by omega)) kn_X0_add wm_70 wm_71 wm_72 (rs_ok (Nat.le_of_ble_eq_true rfl)) rfl rfl dX0_addAction_9 ?_
  refine tj_istore (lv' := [(0, .inr (.inr (a0))), (1, .inl (a1)), (2, .inl (a2)), (3, .inl (a3)), (4, .inl (a4)), (5, .inl (a5)), (6, .inl (a6)), (7, .inl (x2))]) ok dX0_addAction_12 (by decide) rfl ?_
  refine tj_aload_n ok 0 dX0_addAction_14 rfl rfl ?_
  refine tj_getI (k := 12) ok fcX0 (by decide) wm_60 rfl (Or.inl rfl) dX0_addAction_15 e3 ?_
  refine tj_bipush (v := 8) ok dX0_addAction_18 (by decide) ?_
  refine tj_icmp_ge (tgt := 65) ok dX0_addAction_20 (by decide) (fun hc => ?_) (fun hc => ?_)
  · rw [if_pos hc] at hf
    refine tj_sub (lv' := []) [] rfl ?_
    exact (q_X0_addAction_65 hf).2 X g K ok nmx lev hK en
  · rw [if_neg hc] at hf
    refine tj_sub (lv' := [(0, .inr (.inr (a0))), (1, .inl (a1)), (7, .inl (x2))]) [0, 1, 7] rfl ?_
    exact (q_X0_addAction_23 hf).2 X g K ok nmx lev hK en
def f_X0_addAction (a0 : Nat) (a1 : Int32) (a2 : Int32) (a3 : Int32) (a4 : Int32) (a5 : Int32) (a6 : Int32) (h : AH) : Option (AH) := b_X0_addAction_0  a0 a1 a2 a3 a4 a5 a6 h
theorem c_X0_addAction {a0 : Nat} {a1 : Int32} {a2 : Int32} {a3 : Int32} {a4 : Int32} {a5 : Int32} {a6 : Int32} {h hE : AH} (hf : f_X0_addAction a0 a1 a2 a3 a4 a5 a6 h = some hE) : ∀ g : GT, CM g (3) yX0_addAction cX0_addAction 8 none h [.inr (.inr (a0)), .inl (a1), .inl (a2), .inl (a3), .inl (a4), .inl (a5), .inl (a6)] hE none :=
  CM.ofJ (by decide) (by show _ ≤ 8; exact Nat.le_of_ble_eq_true rfl) (q_X0_addAction_0 hf)
/-! ===== LitmusHouse$Code.<init>()V ===== -/
def b_X0_init_0 (a0 : Nat) (h : AH) : Option (AH) :=
  (ok_h a0).bind fun x1 => (n_a h 100 (64 : Int32)).bind fun h2 => (p_r h2 a0 0 0 (hp_n h)).bind fun h3 => (n_a h3 100 (64 : Int32)).bind fun h4 => (p_r h4 a0 0 1 (hp_n h3)).bind fun h5 => (n_a h5 100 (64 : Int32)).bind fun h6 => (p_r h6 a0 0 2 (hp_n h5)).bind fun h7 => (n_a h7 100 (64 : Int32)).bind fun h8 => (p_r h8 a0 0 3 (hp_n h7)).bind fun h9 => (n_a h9 100 (64 : Int32)).bind fun h10 => (p_r h10 a0 0 4 (hp_n h9)).bind fun h11 => (n_a h11 100 (64 : Int32)).bind fun h12 => (p_r h12 a0 0 5 (hp_n h11)).bind fun h13 => (n_a h13 100 (64 : Int32)).bind fun h14 => (p_r h14 a0 0 6 (hp_n h13)).bind fun h15 => (n_a h15 100 (4 : Int32)).bind fun h16 => (p_r h16 a0 0 7 (hp_n h15)).bind fun h17 => (n_a h17 100 (8 : Int32)).bind fun h18 => (p_r h18 a0 0 8 (hp_n h17)).bind fun h19 => (n_a h19 100 (8 : Int32)).bind fun h20 => (p_r h20 a0 0 9 (hp_n h19)).bind fun h21 => (p_i h21 a0 0 10 (0 : Int32)).bind fun h22 => (p_i h22 a0 0 11 (0 : Int32)).bind fun h23 => (p_i h23 a0 0 12 (0 : Int32)).bind fun h24 => (p_i h24 a0 0 13 (0 : Int32)).bind fun h25 => (p_i h25 a0 0 14 (0 : Int32)).bind fun h26 => (p_i h26 a0 0 15 (0 : Int32)).bind fun h27 => (p_i h27 a0 0 16 (-1 : Int32)).bind fun h28 => (p_i h28 a0 0 17 (-1 : Int32)).bind fun h29 => some h29
set_option maxHeartbeats 4000000 in
set_option maxRecDepth 100000 in
theorem q_X0_init_0 {a0 : Nat} {h hE : AH} (hf : b_X0_init_0 a0 h = some hE) : JD cX0_init 1 RX0 "<init>" none (2) 0 [(0, .inr (.inr (a0)))] [] h hE none := by
  unfold b_X0_init_0 at hf
  obtain ⟨x1, e1, hf⟩ := bnd hf
  obtain ⟨h2, e2, hf⟩ := bnd hf
  have m2 := nn_n e2
  obtain ⟨h3, e3, hf⟩ := bnd hf
  have m3 := nn_pr e3
  obtain ⟨h4, e4, hf⟩ := bnd hf
  have m4 := nn_n e4
  obtain ⟨h5, e5, hf⟩ := bnd hf
  have m5 := nn_pr e5
  obtain ⟨h6, e6, hf⟩ := bnd hf
  have m6 := nn_n e6
  obtain ⟨h7, e7, hf⟩ := bnd hf
  have m7 := nn_pr e7
  obtain ⟨h8, e8, hf⟩ := bnd hf
  have m8 := nn_n e8
  obtain ⟨h9, e9, hf⟩ := bnd hf
  have m9 := nn_pr e9
  obtain ⟨h10, e10, hf⟩ := bnd hf
  have m10 := nn_n e10
  obtain ⟨h11, e11, hf⟩ := bnd hf
  have m11 := nn_pr e11
  obtain ⟨h12, e12, hf⟩ := bnd hf
  have m12 := nn_n e12
  obtain ⟨h13, e13, hf⟩ := bnd hf
  have m13 := nn_pr e13
  obtain ⟨h14, e14, hf⟩ := bnd hf
  have m14 := nn_n e14
  obtain ⟨h15, e15, hf⟩ := bnd hf
  have m15 := nn_pr e15
  obtain ⟨h16, e16, hf⟩ := bnd hf
  have m16 := nn_n e16
  obtain ⟨h17, e17, hf⟩ := bnd hf
  have m17 := nn_pr e17
  obtain ⟨h18, e18, hf⟩ := bnd hf
  have m18 := nn_n e18
  obtain ⟨h19, e19, hf⟩ := bnd hf
  have m19 := nn_pr e19
  obtain ⟨h20, e20, hf⟩ := bnd hf
  have m20 := nn_n e20
  obtain ⟨h21, e21, hf⟩ := bnd hf
  have m21 := nn_pr e21
  obtain ⟨h22, e22, hf⟩ := bnd hf
  have m22 := nn_pi e22
  obtain ⟨h23, e23, hf⟩ := bnd hf
  have m23 := nn_pi e23
  obtain ⟨h24, e24, hf⟩ := bnd hf
  have m24 := nn_pi e24
  obtain ⟨h25, e25, hf⟩ := bnd hf
  have m25 := nn_pi e25
  obtain ⟨h26, e26, hf⟩ := bnd hf
  have m26 := nn_pi e26
  obtain ⟨h27, e27, hf⟩ := bnd hf
  have m27 := nn_pi e27
  obtain ⟨h28, e28, hf⟩ := bnd hf
  have m28 := nn_pi e28
  obtain ⟨h29, e29, hf⟩ := bnd hf
  have m29 := nn_pi e29
  have hh := Option.some.inj hf
  subst hh
  have mE : hp_n h29 ≤ hp_n h29 ∧ hp_s h29 ≤ hp_s h29 := ⟨Nat.le_refl _, Nat.le_refl _⟩
  refine ⟨by omega, fun X g K ok nmx lev hK en => ?_⟩
  refine tj_aload_n ok 0 dX0_init_0 rfl rfl ?_
  refine tj_objInit (rest := ([] : List TV).map (vl g)) ok lev (by omega) (of_if e1).1 wm_74 wm_75 wm_obj (rs_ok (Nat.le_of_ble_eq_true rfl)) dX0_init_1 ?_
  refine tj_aload_n ok 0 dX0_init_4 rfl rfl ?_
  refine tj_bipush (v := 64) ok dX0_init_5 (by decide) ?_
  refine tj_newI ok wm_39 dX0_init_7 e2 (CaX.of en (by omega)) ?_
  refine tj_putR (k := 0) ok fcX0 (by decide) wm_59 rfl (Or.inr ⟨nmx, rfl⟩) (Or.inr ⟨_, rfl⟩) dX0_init_9 e3 ?_
  refine tj_aload_n ok 0 dX0_init_12 rfl rfl ?_
  refine tj_bipush (v := 64) ok dX0_init_13 (by decide) ?_
  refine tj_newI ok wm_39 dX0_init_15 e4 (CaX.of en (by omega)) ?_
  refine tj_putR (k := 1) ok fcX0 (by decide) wm_63 rfl (Or.inr ⟨nmx, rfl⟩) (Or.inr ⟨_, rfl⟩) dX0_init_17 e5 ?_
  refine tj_aload_n ok 0 dX0_init_20 rfl rfl ?_
  refine tj_bipush (v := 64) ok dX0_init_21 (by decide) ?_
  refine tj_newI ok wm_39 dX0_init_23 e6 (CaX.of en (by omega)) ?_
  refine tj_putR (k := 2) ok fcX0 (by decide) wm_64 rfl (Or.inr ⟨nmx, rfl⟩) (Or.inr ⟨_, rfl⟩) dX0_init_25 e7 ?_
  refine tj_aload_n ok 0 dX0_init_28 rfl rfl ?_
  refine tj_bipush (v := 64) ok dX0_init_29 (by decide) ?_
  refine tj_newI ok wm_39 dX0_init_31 e8 (CaX.of en (by omega)) ?_
  refine tj_putR (k := 3) ok fcX0 (by decide) wm_65 rfl (Or.inr ⟨nmx, rfl⟩) (Or.inr ⟨_, rfl⟩) dX0_init_33 e9 ?_
  refine tj_aload_n ok 0 dX0_init_36 rfl rfl ?_
  refine tj_bipush (v := 64) ok dX0_init_37 (by decide) ?_
  refine tj_newI ok wm_39 dX0_init_39 e10 (CaX.of en (by omega)) ?_
  refine tj_putR (k := 4) ok fcX0 (by decide) wm_57 rfl (Or.inr ⟨nmx, rfl⟩) (Or.inr ⟨_, rfl⟩) dX0_init_41 e11 ?_
  refine tj_aload_n ok 0 dX0_init_44 rfl rfl ?_
  refine tj_bipush (v := 64) ok dX0_init_45 (by decide) ?_
  refine tj_newI ok wm_39 dX0_init_47 e12 (CaX.of en (by omega)) ?_
  refine tj_putR (k := 5) ok fcX0 (by decide) wm_76 rfl (Or.inr ⟨nmx, rfl⟩) (Or.inr ⟨_, rfl⟩) dX0_init_49 e13 ?_
  refine tj_aload_n ok 0 dX0_init_52 rfl rfl ?_
  refine tj_bipush (v := 64) ok dX0_init_53 (by decide) ?_
  refine tj_newI ok wm_39 dX0_init_55 e14 (CaX.of en (by omega)) ?_
  refine tj_putR (k := 6) ok fcX0 (by decide) wm_66 rfl (Or.inr ⟨nmx, rfl⟩) (Or.inr ⟨_, rfl⟩) dX0_init_57 e15 ?_
  refine tj_aload_n ok 0 dX0_init_60 rfl rfl ?_
  refine tj_iconst (v := 4) ok dX0_init_61 (by decide) ?_
  refine tj_newI ok wm_39 dX0_init_62 e16 (CaX.of en (by omega)) ?_
  refine tj_putR (k := 7) ok fcX0 (by decide) wm_77 rfl (Or.inr ⟨nmx, rfl⟩) (Or.inr ⟨_, rfl⟩) dX0_init_64 e17 ?_
  refine tj_aload_n ok 0 dX0_init_67 rfl rfl ?_
  refine tj_bipush (v := 8) ok dX0_init_68 (by decide) ?_
  refine tj_newI ok wm_39 dX0_init_70 e18 (CaX.of en (by omega)) ?_
  refine tj_putR (k := 8) ok fcX0 (by decide) wm_58 rfl (Or.inr ⟨nmx, rfl⟩) (Or.inr ⟨_, rfl⟩) dX0_init_72 e19 ?_
  refine tj_aload_n ok 0 dX0_init_75 rfl rfl ?_
  refine tj_bipush (v := 8) ok dX0_init_76 (by decide) ?_
  refine tj_newI ok wm_39 dX0_init_78 e20 (CaX.of en (by omega)) ?_
  refine tj_putR (k := 9) ok fcX0 (by decide) wm_69 rfl (Or.inr ⟨nmx, rfl⟩) (Or.inr ⟨_, rfl⟩) dX0_init_80 e21 ?_
  refine tj_aload_n ok 0 dX0_init_83 rfl rfl ?_
  refine tj_iconst (v := 0) ok dX0_init_84 (by decide) ?_
  refine tj_putI (k := 10) ok fcX0 (by decide) wm_62 rfl (Or.inl rfl) rfl dX0_init_85 e22 ?_
  refine tj_aload_n ok 0 dX0_init_88 rfl rfl ?_
  refine tj_iconst (v := 0) ok dX0_init_89 (by decide) ?_
  refine tj_putI (k := 11) ok fcX0 (by decide) wm_78 rfl (Or.inl rfl) rfl dX0_init_90 e23 ?_
  refine tj_aload_n ok 0 dX0_init_93 rfl rfl ?_
  refine tj_iconst (v := 0) ok dX0_init_94 (by decide) ?_
  refine tj_putI (k := 12) ok fcX0 (by decide) wm_60 rfl (Or.inl rfl) rfl dX0_init_95 e24 ?_
  refine tj_aload_n ok 0 dX0_init_98 rfl rfl ?_
  refine tj_iconst (v := 0) ok dX0_init_99 (by decide) ?_
  refine tj_putI (k := 13) ok fcX0 (by decide) wm_79 rfl (Or.inl rfl) rfl dX0_init_100 e25 ?_
  refine tj_aload_n ok 0 dX0_init_103 rfl rfl ?_
  refine tj_iconst (v := 0) ok dX0_init_104 (by decide) ?_
  refine tj_putI (k := 14) ok fcX0 (by decide) wm_80 rfl (Or.inl rfl) rfl dX0_init_105 e26 ?_
  refine tj_aload_n ok 0 dX0_init_108 rfl rfl ?_
  refine tj_iconst (v := 0) ok dX0_init_109 (by decide) ?_
  refine tj_putI (k := 15) ok fcX0 (by decide) wm_81 rfl (Or.inl rfl) rfl dX0_init_110 e27 ?_
  refine tj_aload_n ok 0 dX0_init_113 rfl rfl ?_
  refine tj_iconst (v := -1) ok dX0_init_114 (by decide) ?_
  refine tj_putI (k := 16) ok fcX0 (by decide) wm_82 rfl (Or.inl rfl) rfl dX0_init_115 e28 ?_
  refine tj_aload_n ok 0 dX0_init_118 rfl rfl ?_
  refine tj_iconst (v := -1) ok dX0_init_119 (by decide) ?_
  refine tj_putI (k := 17) ok fcX0 (by decide) wm_83 rfl (Or.inl rfl) rfl dX0_init_120 e29 ?_
  exact tj_return ok en dX0_init_123
def f_X0_init (a0 : Nat) (h : AH) : Option (AH) := b_X0_init_0  a0 h
theorem c_X0_init {a0 : Nat} {h hE : AH} (hf : f_X0_init a0 h = some hE) : ∀ g : GT, CM g (2) yX0_init cX0_init 1 none h [.inr (.inr (a0))] hE none :=
  CM.ofJ (by decide) (by show _ ≤ 1; exact Nat.le_of_ble_eq_true rfl) (q_X0_init_0 hf)
/-! ===== LitmusHouse$Code.isCellAction(I)Z ===== -/
def b_X0_isCellAction_29 (s0 : Int32) (h : AH) : Option (Int32 × AH) :=
  ok_z s0 h
set_option maxHeartbeats 4000000 in
set_option maxRecDepth 100000 in
theorem q_X0_isCellAction_29 {s0 : Int32} {h hE : AH} {v : Int32} (hf : b_X0_isCellAction_29 s0 h = some (v, hE)) : JD cX0_isCellAction 3 RX0 "isCellAction" (some .boolean) (2) 29 [] [.inl (s0)] h hE (some (.inl (v))) := by
  unfold b_X0_isCellAction_29 at hf
  have mE : hp_n h ≤ hp_n hE ∧ hp_s h ≤ hp_s hE := by obtain ⟨-, q⟩ := of_if hf; cases q; exact ⟨Nat.le_refl _, Nat.le_refl _⟩
  refine ⟨by omega, fun X g K ok nmx lev hK en => ?_⟩
  exact tj_zreturn ok hf en dX0_isCellAction_29
def b_X0_isCellAction_24  (h : AH) : Option (Int32 × AH) :=
  b_X0_isCellAction_29 (1 : Int32) h
set_option maxHeartbeats 4000000 in
set_option maxRecDepth 100000 in
theorem q_X0_isCellAction_24 {h hE : AH} {v : Int32} (hf : b_X0_isCellAction_24  h = some (v, hE)) : JD cX0_isCellAction 3 RX0 "isCellAction" (some .boolean) (2) 24 [] [] h hE (some (.inl (v))) := by
  unfold b_X0_isCellAction_24 at hf
  have J := q_X0_isCellAction_29 hf
  have mE := J.1
  refine ⟨by omega, fun X g K ok nmx lev hK en => ?_⟩
  refine tj_iconst (v := 1) ok dX0_isCellAction_24 (by decide) ?_
  refine tj_goto (tgt := 29) ok dX0_isCellAction_25 (by decide) ?_
  exact J.2 X g K ok nmx lev hK en
def b_X0_isCellAction_28  (h : AH) : Option (Int32 × AH) :=
  b_X0_isCellAction_29 (0 : Int32) h
set_option maxHeartbeats 4000000 in
set_option maxRecDepth 100000 in
theorem q_X0_isCellAction_28 {h hE : AH} {v : Int32} (hf : b_X0_isCellAction_28  h = some (v, hE)) : JD cX0_isCellAction 3 RX0 "isCellAction" (some .boolean) (2) 28 [] [] h hE (some (.inl (v))) := by
  unfold b_X0_isCellAction_28 at hf
  have J := q_X0_isCellAction_29 hf
  have mE := J.1
  refine ⟨by omega, fun X g K ok nmx lev hK en => ?_⟩
  refine tj_iconst (v := 0) ok dX0_isCellAction_28 (by decide) ?_
  exact J.2 X g K ok nmx lev hK en
def b_X0_isCellAction_19 (a2 : Int32) (h : AH) : Option (Int32 × AH) :=
  if a2 = (2 : Int32) then b_X0_isCellAction_24 h else b_X0_isCellAction_28 h
set_option maxHeartbeats 4000000 in
set_option maxRecDepth 100000 in
theorem q_X0_isCellAction_19 {a2 : Int32} {h hE : AH} {v : Int32} (hf : b_X0_isCellAction_19 a2 h = some (v, hE)) : JD cX0_isCellAction 3 RX0 "isCellAction" (some .boolean) (2) 19 [(2, .inl (a2))] [] h hE (some (.inl (v))) := by
  unfold b_X0_isCellAction_19 at hf
  have mE : hp_n h ≤ hp_n hE ∧ hp_s h ≤ hp_s hE := by
    by_cases hc : a2 = (2 : Int32)
    · rw [if_pos hc] at hf; exact (q_X0_isCellAction_24 hf).1
    · rw [if_neg hc] at hf; exact (q_X0_isCellAction_28 hf).1
  refine ⟨by omega, fun X g K ok nmx lev hK en => ?_⟩
  refine tj_iload_n ok 0 dX0_isCellAction_19 rfl rfl ?_
  refine tj_iconst (v := 2) ok dX0_isCellAction_20 (by decide) ?_
  refine tj_icmp_ne (tgt := 28) ok dX0_isCellAction_21 (by decide) (fun hc => ?_) (fun hc => ?_)
  · rw [if_neg hc] at hf
    refine tj_sub (lv' := []) [] rfl ?_
    exact (q_X0_isCellAction_28 hf).2 X g K ok nmx lev hK en
  · rw [if_pos hc] at hf
    refine tj_sub (lv' := []) [] rfl ?_
    exact (q_X0_isCellAction_24 hf).2 X g K ok nmx lev hK en
def b_X0_isCellAction_14 (a2 : Int32) (h : AH) : Option (Int32 × AH) :=
  if a2 = (1 : Int32) then b_X0_isCellAction_24 h else b_X0_isCellAction_19 a2 h
set_option maxHeartbeats 4000000 in
set_option maxRecDepth 100000 in
theorem q_X0_isCellAction_14 {a2 : Int32} {h hE : AH} {v : Int32} (hf : b_X0_isCellAction_14 a2 h = some (v, hE)) : JD cX0_isCellAction 3 RX0 "isCellAction" (some .boolean) (2) 14 [(2, .inl (a2))] [] h hE (some (.inl (v))) := by
  unfold b_X0_isCellAction_14 at hf
  have mE : hp_n h ≤ hp_n hE ∧ hp_s h ≤ hp_s hE := by
    by_cases hc : a2 = (1 : Int32)
    · rw [if_pos hc] at hf; exact (q_X0_isCellAction_24 hf).1
    · rw [if_neg hc] at hf; exact (q_X0_isCellAction_19 hf).1
  refine ⟨by omega, fun X g K ok nmx lev hK en => ?_⟩
  refine tj_iload_n ok 0 dX0_isCellAction_14 rfl rfl ?_
  refine tj_iconst (v := 1) ok dX0_isCellAction_15 (by decide) ?_
  refine tj_icmp_eq (tgt := 24) ok dX0_isCellAction_16 (by decide) (fun hc => ?_) (fun hc => ?_)
  · rw [if_pos hc] at hf
    refine tj_sub (lv' := []) [] rfl ?_
    exact (q_X0_isCellAction_24 hf).2 X g K ok nmx lev hK en
  · rw [if_neg hc] at hf
    exact (q_X0_isCellAction_19 hf).2 X g K ok nmx lev hK en
def b_X0_isCellAction_0 (a0 : Nat) (a1 : Int32) (h : AH) : Option (Int32 × AH) :=
  (g_r h a0 0 0).bind fun x1 => (l_i h x1 (a1 &&& (63 : Int32))).bind fun x2 => if x2 = 0 then b_X0_isCellAction_24 h else b_X0_isCellAction_14 x2 h
set_option maxHeartbeats 4000000 in
set_option maxRecDepth 100000 in
theorem q_X0_isCellAction_0 {a0 : Nat} {a1 : Int32} {h hE : AH} {v : Int32} (hf : b_X0_isCellAction_0 a0 a1 h = some (v, hE)) : JD cX0_isCellAction 3 RX0 "isCellAction" (some .boolean) (2) 0 [(0, .inr (.inr (a0))), (1, .inl (a1))] [] h hE (some (.inl (v))) := by
  unfold b_X0_isCellAction_0 at hf
  obtain ⟨x1, e1, hf⟩ := bnd hf
  obtain ⟨x2, e2, hf⟩ := bnd hf
  have mE : hp_n h ≤ hp_n hE ∧ hp_s h ≤ hp_s hE := by
    by_cases hc : x2 = 0
    · rw [if_pos hc] at hf; exact (q_X0_isCellAction_24 hf).1
    · rw [if_neg hc] at hf; exact (q_X0_isCellAction_14 hf).1
  refine ⟨by omega, fun X g K ok nmx lev hK en => ?_⟩
  refine tj_aload_n ok 0 dX0_isCellAction_0 rfl rfl ?_
  refine tj_getR (k := 0) ok fcX0 (by decide) wm_59 rfl (Or.inr ⟨_, rfl⟩) dX0_isCellAction_1 e1 ?_
  refine tj_iload_n ok 1 dX0_isCellAction_4 rfl rfl ?_
  refine tj_bipush (v := 63) ok dX0_isCellAction_5 (by decide) ?_
  refine tj_iand ok dX0_isCellAction_7 ?_
  refine tj_iaload ok dX0_isCellAction_8 e2 ?_
  refine tj_istore_n (lv' := [(0, .inr (.inr (a0))), (1, .inl (a1)), (2, .inl (x2))]) ok dX0_isCellAction_9 rfl (by decide) rfl ?_
  refine tj_iload_n ok 2 dX0_isCellAction_10 rfl rfl ?_
  refine tj_if_eq (tgt := 24) ok dX0_isCellAction_11 (by decide) (fun hc => ?_) (fun hc => ?_)
  · rw [if_pos hc] at hf
    refine tj_sub (lv' := []) [] rfl ?_
    exact (q_X0_isCellAction_24 hf).2 X g K ok nmx lev hK en
  · rw [if_neg hc] at hf
    refine tj_sub (lv' := [(2, .inl (x2))]) [2] rfl ?_
    exact (q_X0_isCellAction_14 hf).2 X g K ok nmx lev hK en
def f_X0_isCellAction (a0 : Nat) (a1 : Int32) (h : AH) : Option (Int32 × AH) := b_X0_isCellAction_0  a0 a1 h
theorem c_X0_isCellAction {a0 : Nat} {a1 : Int32} {h hE : AH} {v : Int32} (hf : f_X0_isCellAction a0 a1 h = some (v, hE)) : ∀ g : GT, CM g (2) yX0_isCellAction cX0_isCellAction 3 (some .boolean) h [.inr (.inr (a0)), .inl (a1)] hE (some (.inl (v))) :=
  CM.ofJ (by decide) (by show _ ≤ 3; exact Nat.le_of_ble_eq_true rfl) (q_X0_isCellAction_0 hf)
/-! ===== LitmusHouse$Code.touchedCells()I ===== -/
def b_X0_touchedCells_53 (a1 : Int32) (h : AH) : Option (Int32 × AH) :=
  some (a1, h)
set_option maxHeartbeats 4000000 in
set_option maxRecDepth 100000 in
theorem q_X0_touchedCells_53 {a1 : Int32} {h hE : AH} {v : Int32} (hf : b_X0_touchedCells_53 a1 h = some (v, hE)) : JD cX0_touchedCells 4 RX0 "touchedCells" (some .int) (3) 53 [(1, .inl (a1))] [] h hE (some (.inl (v))) := by
  unfold b_X0_touchedCells_53 at hf
  obtain ⟨hv, hh⟩ := Prod.mk.inj (Option.some.inj hf)
  subst hv
  subst hh
  have mE : hp_n h ≤ hp_n h ∧ hp_s h ≤ hp_s h := ⟨Nat.le_refl _, Nat.le_refl _⟩
  refine ⟨by omega, fun X g K ok nmx lev hK en => ?_⟩
  refine tj_iload_n ok 0 dX0_touchedCells_53 rfl rfl ?_
  exact tj_ireturn ok en dX0_touchedCells_54
def b_X0_touchedCells_47 (r4 : Nat → Int32 → Int32 → AH → Option (Int32 × AH)) (a0 : Nat) (a1 : Int32) (a2 : Int32) (h : AH) : Option (Int32 × AH) :=
  r4 a0 a1 (a2 + (1 : Int32)) h
set_option maxHeartbeats 4000000 in
set_option maxRecDepth 100000 in
theorem q_X0_touchedCells_47 {hE : AH} {v : Int32} {r4 : Nat → Int32 → Int32 → AH → Option (Int32 × AH)} (hr4 : ∀ (b0 : Nat) (b1 : Int32) (b2 : Int32) (h : AH), r4 b0 b1 b2 h = some (v, hE) → JD cX0_touchedCells 4 RX0 "touchedCells" (some .int) (3) 4 [(0, .inr (.inr (b0))), (1, .inl (b1)), (2, .inl (b2))] [] h hE (some (.inl (v)))) {a0 : Nat} {a1 : Int32} {a2 : Int32} {h : AH} (hf : b_X0_touchedCells_47 r4 a0 a1 a2 h = some (v, hE)) : JD cX0_touchedCells 4 RX0 "touchedCells" (some .int) (3) 47 [(0, .inr (.inr (a0))), (1, .inl (a1)), (2, .inl (a2))] [] h hE (some (.inl (v))) := by
  unfold b_X0_touchedCells_47 at hf
  have J := hr4 _ _ _ _ hf
  have mE := J.1
  refine ⟨by omega, fun X g K ok nmx lev hK en => ?_⟩
  refine tj_iinc (lv' := [(0, .inr (.inr (a0))), (1, .inl (a1)), (2, .inl (a2 + (1 : Int32)))]) ok 2 dX0_touchedCells_47 rfl (rfl) (by decide) rfl ?_
  refine tj_goto (tgt := 4) ok dX0_touchedCells_50 (by decide) ?_
  exact J.2 X g K ok nmx lev hK en
def b_X0_touchedCells_36 (r4 : Nat → Int32 → Int32 → AH → Option (Int32 × AH)) (a0 : Nat) (a1 : Int32) (a2 : Int32) (a3 : Int32) (h : AH) : Option (Int32 × AH) :=
  (g_r h a0 0 4).bind fun x1 => (l_i h x1 a3).bind fun x2 => b_X0_touchedCells_47 r4 a0 (a1 ||| ((1 : Int32) <<< (x2 &&& 31))) a2 h
set_option maxHeartbeats 4000000 in
set_option maxRecDepth 100000 in
theorem q_X0_touchedCells_36 {hE : AH} {v : Int32} {r4 : Nat → Int32 → Int32 → AH → Option (Int32 × AH)} (hr4 : ∀ (b0 : Nat) (b1 : Int32) (b2 : Int32) (h : AH), r4 b0 b1 b2 h = some (v, hE) → JD cX0_touchedCells 4 RX0 "touchedCells" (some .int) (3) 4 [(0, .inr (.inr (b0))), (1, .inl (b1)), (2, .inl (b2))] [] h hE (some (.inl (v)))) {a0 : Nat} {a1 : Int32} {a2 : Int32} {a3 : Int32} {h : AH} (hf : b_X0_touchedCells_36 r4 a0 a1 a2 a3 h = some (v, hE)) : JD cX0_touchedCells 4 RX0 "touchedCells" (some .int) (3) 36 [(0, .inr (.inr (a0))), (1, .inl (a1)), (2, .inl (a2)), (3, .inl (a3))] [] h hE (some (.inl (v))) := by
  unfold b_X0_touchedCells_36 at hf
  obtain ⟨x1, e1, hf⟩ := bnd hf
  obtain ⟨x2, e2, hf⟩ := bnd hf
  have J := q_X0_touchedCells_47 hr4 hf
  have mE := J.1
  refine ⟨by omega, fun X g K ok nmx lev hK en => ?_⟩
  refine tj_iload_n ok 1 dX0_touchedCells_36 rfl rfl ?_
  refine tj_iconst (v := 1) ok dX0_touchedCells_37 (by decide) ?_
  refine tj_aload_n ok 0 dX0_touchedCells_38 rfl rfl ?_
  refine tj_getR (k := 4) ok fcX0 (by decide) wm_57 rfl (Or.inr ⟨_, rfl⟩) dX0_touchedCells_39 e1 ?_
  refine tj_iload_n ok 3 dX0_touchedCells_42 rfl rfl ?_
  refine tj_iaload ok dX0_touchedCells_43 e2 ?_
  refine tj_ishl ok dX0_touchedCells_44 ?_
  refine tj_ior ok dX0_touchedCells_45 ?_
  refine tj_istore_n (lv' := [(0, .inr (.inr (a0))), (1, .inl (a1 ||| ((1 : Int32) <<< (x2 &&& 31)))), (2, .inl (a2)), (3, .inl (a3))]) ok dX0_touchedCells_46 rfl (by decide) rfl ?_
  refine tj_sub (lv' := [(0, .inr (.inr (a0))), (1, .inl (a1 ||| ((1 : Int32) <<< (x2 &&& 31)))), (2, .inl (a2))]) [0, 1, 2] rfl ?_
  exact J.2 X g K ok nmx lev hK en
def b_X0_touchedCells_18 (r4 : Nat → Int32 → Int32 → AH → Option (Int32 × AH)) (a0 : Nat) (a1 : Int32) (a2 : Int32) (h : AH) : Option (Int32 × AH) :=
  (g_r h a0 0 8).bind fun x1 => (l_i h x1 a2).bind fun x2 => (ok_v h a0 0).bind fun x3 => (f_X0_isCellAction a0 (x2 &&& (63 : Int32)) h).bind fun q4 => if q4.1 = 0 then b_X0_touchedCells_47 r4 a0 a1 a2 q4.2 else b_X0_touchedCells_36 r4 a0 a1 a2 (x2 &&& (63 : Int32)) q4.2
set_option maxHeartbeats 4000000 in
set_option maxRecDepth 100000 in
theorem q_X0_touchedCells_18 {hE : AH} {v : Int32} {r4 : Nat → Int32 → Int32 → AH → Option (Int32 × AH)} (hr4 : ∀ (b0 : Nat) (b1 : Int32) (b2 : Int32) (h : AH), r4 b0 b1 b2 h = some (v, hE) → JD cX0_touchedCells 4 RX0 "touchedCells" (some .int) (3) 4 [(0, .inr (.inr (b0))), (1, .inl (b1)), (2, .inl (b2))] [] h hE (some (.inl (v)))) {a0 : Nat} {a1 : Int32} {a2 : Int32} {h : AH} (hf : b_X0_touchedCells_18 r4 a0 a1 a2 h = some (v, hE)) : JD cX0_touchedCells 4 RX0 "touchedCells" (some .int) (3) 18 [(0, .inr (.inr (a0))), (1, .inl (a1)), (2, .inl (a2))] [] h hE (some (.inl (v))) := by
  unfold b_X0_touchedCells_18 at hf
  obtain ⟨x1, e1, hf⟩ := bnd hf
  obtain ⟨x2, e2, hf⟩ := bnd hf
  obtain ⟨x3, e3, hf⟩ := bnd hf
  obtain ⟨⟨x4, h4⟩, e4, hf⟩ := bnd hf
  try dsimp only at hf
  have k4 := c_X0_isCellAction e4
  have m4 := (k4 default_g).1
  have mE : hp_n h4 ≤ hp_n hE ∧ hp_s h4 ≤ hp_s hE := by
    by_cases hc : x4 = 0
    · rw [if_pos hc] at hf; exact (q_X0_touchedCells_47 hr4 hf).1
    · rw [if_neg hc] at hf; exact (q_X0_touchedCells_36 hr4 hf).1
  refine ⟨by omega, fun X g K ok nmx lev hK en => ?_⟩
  refine tj_aload_n ok 0 dX0_touchedCells_18 rfl rfl ?_
  refine tj_getR (k := 8) ok fcX0 (by decide) wm_58 rfl (Or.inr ⟨_, rfl⟩) dX0_touchedCells_19 e1 ?_
  refine tj_iload_n ok 2 dX0_touchedCells_22 rfl rfl ?_
  refine tj_iaload ok dX0_touchedCells_23 e2 ?_
  refine tj_bipush (v := 63) ok dX0_touchedCells_24 (by decide) ?_
  refine tj_iand ok dX0_touchedCells_26 ?_
  refine tj_istore_n (lv' := [(0, .inr (.inr (a0))), (1, .inl (a1)), (2, .inl (a2)), (3, .inl (x2 &&& (63 : Int32)))]) ok dX0_touchedCells_27 rfl (by decide) rfl ?_
  refine tj_aload_n ok 0 dX0_touchedCells_28 rfl rfl ?_
  refine tj_iload_n ok 3 dX0_touchedCells_29 rfl rfl ?_
  refine tj_callV (rest := ([] : List TV).map (vl g)) (as := [.inl (x2 &&& (63 : Int32))]) ok lev (by omega) fcX0.1 (by decide) rfl (of_if e3).1 (k4 g) (CaX.of en (by omega)) kn_X0_isCellAction wm_86 wm_87 wm_88 (rs_ok (Nat.le_of_ble_eq_true rfl)) rfl rfl dX0_touchedCells_30 ?_
  refine tj_if_eq (tgt := 47) ok dX0_touchedCells_33 (by decide) (fun hc => ?_) (fun hc => ?_)
  · rw [if_pos hc] at hf
    refine tj_sub (lv' := [(0, .inr (.inr (a0))), (1, .inl (a1)), (2, .inl (a2))]) [0, 1, 2] rfl ?_
    exact (q_X0_touchedCells_47 hr4 hf).2 X g K ok nmx lev hK en
  · rw [if_neg hc] at hf
    exact (q_X0_touchedCells_36 hr4 hf).2 X g K ok nmx lev hK en
def b_X0_touchedCells_12 (r4 : Nat → Int32 → Int32 → AH → Option (Int32 × AH)) (a0 : Nat) (a1 : Int32) (a2 : Int32) (h : AH) : Option (Int32 × AH) :=
  if (8 : Int32) ≤ a2 then b_X0_touchedCells_53 a1 h else b_X0_touchedCells_18 r4 a0 a1 a2 h
set_option maxHeartbeats 4000000 in
set_option maxRecDepth 100000 in
theorem q_X0_touchedCells_12 {hE : AH} {v : Int32} {r4 : Nat → Int32 → Int32 → AH → Option (Int32 × AH)} (hr4 : ∀ (b0 : Nat) (b1 : Int32) (b2 : Int32) (h : AH), r4 b0 b1 b2 h = some (v, hE) → JD cX0_touchedCells 4 RX0 "touchedCells" (some .int) (3) 4 [(0, .inr (.inr (b0))), (1, .inl (b1)), (2, .inl (b2))] [] h hE (some (.inl (v)))) {a0 : Nat} {a1 : Int32} {a2 : Int32} {h : AH} (hf : b_X0_touchedCells_12 r4 a0 a1 a2 h = some (v, hE)) : JD cX0_touchedCells 4 RX0 "touchedCells" (some .int) (3) 12 [(0, .inr (.inr (a0))), (1, .inl (a1)), (2, .inl (a2))] [] h hE (some (.inl (v))) := by
  unfold b_X0_touchedCells_12 at hf
  have mE : hp_n h ≤ hp_n hE ∧ hp_s h ≤ hp_s hE := by
    by_cases hc : (8 : Int32) ≤ a2
    · rw [if_pos hc] at hf; exact (q_X0_touchedCells_53 hf).1
    · rw [if_neg hc] at hf; exact (q_X0_touchedCells_18 hr4 hf).1
  refine ⟨by omega, fun X g K ok nmx lev hK en => ?_⟩
  refine tj_iload_n ok 2 dX0_touchedCells_12 rfl rfl ?_
  refine tj_bipush (v := 8) ok dX0_touchedCells_13 (by decide) ?_
  refine tj_icmp_ge (tgt := 53) ok dX0_touchedCells_15 (by decide) (fun hc => ?_) (fun hc => ?_)
  · rw [if_pos hc] at hf
    refine tj_sub (lv' := [(1, .inl (a1))]) [1] rfl ?_
    exact (q_X0_touchedCells_53 hf).2 X g K ok nmx lev hK en
  · rw [if_neg hc] at hf
    exact (q_X0_touchedCells_18 hr4 hf).2 X g K ok nmx lev hK en
def b_X0_touchedCells_4 (r4 : Nat → Int32 → Int32 → AH → Option (Int32 × AH)) (a0 : Nat) (a1 : Int32) (a2 : Int32) (h : AH) : Option (Int32 × AH) :=
  (g_i h a0 0 12).bind fun x1 => if x1 ≤ a2 then b_X0_touchedCells_53 a1 h else b_X0_touchedCells_12 r4 a0 a1 a2 h
set_option maxHeartbeats 4000000 in
set_option maxRecDepth 100000 in
theorem q_X0_touchedCells_4 {hE : AH} {v : Int32} {r4 : Nat → Int32 → Int32 → AH → Option (Int32 × AH)} (hr4 : ∀ (b0 : Nat) (b1 : Int32) (b2 : Int32) (h : AH), r4 b0 b1 b2 h = some (v, hE) → JD cX0_touchedCells 4 RX0 "touchedCells" (some .int) (3) 4 [(0, .inr (.inr (b0))), (1, .inl (b1)), (2, .inl (b2))] [] h hE (some (.inl (v)))) {a0 : Nat} {a1 : Int32} {a2 : Int32} {h : AH} (hf : b_X0_touchedCells_4 r4 a0 a1 a2 h = some (v, hE)) : JD cX0_touchedCells 4 RX0 "touchedCells" (some .int) (3) 4 [(0, .inr (.inr (a0))), (1, .inl (a1)), (2, .inl (a2))] [] h hE (some (.inl (v))) := by
  unfold b_X0_touchedCells_4 at hf
  obtain ⟨x1, e1, hf⟩ := bnd hf
  have mE : hp_n h ≤ hp_n hE ∧ hp_s h ≤ hp_s hE := by
    by_cases hc : x1 ≤ a2
    · rw [if_pos hc] at hf; exact (q_X0_touchedCells_53 hf).1
    · rw [if_neg hc] at hf; exact (q_X0_touchedCells_12 hr4 hf).1
  refine ⟨by omega, fun X g K ok nmx lev hK en => ?_⟩
  refine tj_iload_n ok 2 dX0_touchedCells_4 rfl rfl ?_
  refine tj_aload_n ok 0 dX0_touchedCells_5 rfl rfl ?_
  refine tj_getI (k := 12) ok fcX0 (by decide) wm_60 rfl (Or.inl rfl) dX0_touchedCells_6 e1 ?_
  refine tj_icmp_ge (tgt := 53) ok dX0_touchedCells_9 (by decide) (fun hc => ?_) (fun hc => ?_)
  · rw [if_pos hc] at hf
    refine tj_sub (lv' := [(1, .inl (a1))]) [1] rfl ?_
    exact (q_X0_touchedCells_53 hf).2 X g K ok nmx lev hK en
  · rw [if_neg hc] at hf
    exact (q_X0_touchedCells_12 hr4 hf).2 X g K ok nmx lev hK en
def l_X0_touchedCells_4 : Nat → Nat → Int32 → Int32 → AH → Option (Int32 × AH)
  | 0 => fun _ _ _ _ => none
  | n + 1 => fun a0 a1 a2 h => b_X0_touchedCells_4 (l_X0_touchedCells_4 n) a0 a1 a2 h
theorem ql_X0_touchedCells_4 {n : Nat} {a0 : Nat} {a1 : Int32} {a2 : Int32} {h hE : AH} {v : Int32} (hf : l_X0_touchedCells_4 n a0 a1 a2 h = some (v, hE)) : JD cX0_touchedCells 4 RX0 "touchedCells" (some .int) (3) 4 [(0, .inr (.inr (a0))), (1, .inl (a1)), (2, .inl (a2))] [] h hE (some (.inl (v))) := by
  induction n generalizing a0 a1 a2 h with
  | zero => cases hf
  | succ n ih => exact q_X0_touchedCells_4 (fun _ _ _ _ hf => ih hf) hf
def b_X0_touchedCells_0 (a0 : Nat) (h : AH) : Option (Int32 × AH) :=
  l_X0_touchedCells_4 fu_ a0 (0 : Int32) (0 : Int32) h
set_option maxHeartbeats 4000000 in
set_option maxRecDepth 100000 in
theorem q_X0_touchedCells_0 {a0 : Nat} {h hE : AH} {v : Int32} (hf : b_X0_touchedCells_0 a0 h = some (v, hE)) : JD cX0_touchedCells 4 RX0 "touchedCells" (some .int) (3) 0 [(0, .inr (.inr (a0)))] [] h hE (some (.inl (v))) := by
  unfold b_X0_touchedCells_0 at hf
  have J := ql_X0_touchedCells_4 hf
  have mE := J.1
  refine ⟨by omega, fun X g K ok nmx lev hK en => ?_⟩
  refine tj_iconst (v := 0) ok dX0_touchedCells_0 (by decide) ?_
  refine tj_istore_n (lv' := [(0, .inr (.inr (a0))), (1, .inl ((0 : Int32)))]) ok dX0_touchedCells_1 rfl (by decide) rfl ?_
  refine tj_iconst (v := 0) ok dX0_touchedCells_2 (by decide) ?_
  refine tj_istore_n (lv' := [(0, .inr (.inr (a0))), (1, .inl ((0 : Int32))), (2, .inl ((0 : Int32)))]) ok dX0_touchedCells_3 rfl (by decide) rfl ?_
  exact J.2 X g K ok nmx lev hK en
def f_X0_touchedCells (a0 : Nat) (h : AH) : Option (Int32 × AH) := b_X0_touchedCells_0  a0 h
theorem c_X0_touchedCells {a0 : Nat} {h hE : AH} {v : Int32} (hf : f_X0_touchedCells a0 h = some (v, hE)) : ∀ g : GT, CM g (3) yX0_touchedCells cX0_touchedCells 4 (some .int) h [.inr (.inr (a0))] hE (some (.inl (v))) :=
  CM.ofJ (by decide) (by show _ ≤ 4; exact Nat.le_of_ble_eq_true rfl) (q_X0_touchedCells_0 hf)
