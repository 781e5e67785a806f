theorem dX2_init_0 : decode cX2_init 0 = .ok (.aload_n 0, 1) := by decide +kernel
theorem dX2_init_1 : decode cX2_init 1 = .ok (.invokespecial 3, 3) := by decide +kernel
theorem dX2_init_4 : decode cX2_init 4 = .ok (.aload_n 0, 1) := by decide +kernel
theorem dX2_init_5 : decode cX2_init 5 = .ok (.lconst 0, 1) := by decide +kernel
theorem dX2_init_6 : decode cX2_init 6 = .ok (.putfield 9, 3) := by decide +kernel
theorem dX2_init_9 : decode cX2_init 9 = .ok (.aload_n 0, 1) := by decide +kernel
theorem dX2_init_10 : decode cX2_init 10 = .ok (.lconst 0, 1) := by decide +kernel
theorem dX2_init_11 : decode cX2_init 11 = .ok (.putfield 15, 3) := by decide +kernel
theorem dX2_init_14 : decode cX2_init 14 = .ok (.aload_n 0, 1) := by decide +kernel
theorem dX2_init_15 : decode cX2_init 15 = .ok (.lconst 0, 1) := by decide +kernel
theorem dX2_init_16 : decode cX2_init 16 = .ok (.putfield 18, 3) := by decide +kernel
theorem dX2_init_19 : decode cX2_init 19 = .ok (.aload_n 0, 1) := by decide +kernel
theorem dX2_init_20 : decode cX2_init 20 = .ok (.iconst 0, 1) := by decide +kernel
theorem dX2_init_21 : decode cX2_init 21 = .ok (.putfield 21, 3) := by decide +kernel
theorem dX2_init_24 : decode cX2_init 24 = .ok (.aload_n 0, 1) := by decide +kernel
theorem dX2_init_25 : decode cX2_init 25 = .ok (.bipush 8, 2) := by decide +kernel
theorem dX2_init_27 : decode cX2_init 27 = .ok (.newarray .int, 2) := by decide +kernel
theorem dX2_init_29 : decode cX2_init 29 = .ok (.putfield 25, 3) := by decide +kernel
theorem dX2_init_32 : decode cX2_init 32 = .ok (.aload_n 0, 1) := by decide +kernel
theorem dX2_init_33 : decode cX2_init 33 = .ok (.iconst 2, 1) := by decide +kernel
theorem dX2_init_34 : decode cX2_init 34 = .ok (.newarray .int, 2) := by decide +kernel
theorem dX2_init_36 : decode cX2_init 36 = .ok (.putfield 29, 3) := by decide +kernel
theorem dX2_init_39 : decode cX2_init 39 = .ok (.aload_n 0, 1) := by decide +kernel
theorem dX2_init_40 : decode cX2_init 40 = .ok (.iconst 4, 1) := by decide +kernel
theorem dX2_init_41 : decode cX2_init 41 = .ok (.newarray .int, 2) := by decide +kernel
theorem dX2_init_43 : decode cX2_init 43 = .ok (.putfield 32, 3) := by decide +kernel
theorem dX2_init_46 : decode cX2_init 46 = .ok (.aload_n 0, 1) := by decide +kernel
theorem dX2_init_47 : decode cX2_init 47 = .ok (.new 35, 3) := by decide +kernel
theorem dX2_init_50 : decode cX2_init 50 = .ok (.dup, 1) := by decide +kernel
theorem dX2_init_51 : decode cX2_init 51 = .ok (.invokespecial 37, 3) := by decide +kernel
theorem dX2_init_54 : decode cX2_init 54 = .ok (.putfield 38, 3) := by decide +kernel
theorem dX2_init_57 : decode cX2_init 57 = .ok (.aload_n 0, 1) := by decide +kernel
theorem dX2_init_58 : decode cX2_init 58 = .ok (.iconst 0, 1) := by decide +kernel
theorem dX2_init_59 : decode cX2_init 59 = .ok (.putfield 42, 3) := by decide +kernel
theorem dX2_init_62 : decode cX2_init 62 = .ok (.return_, 1) := by decide +kernel
theorem dX2_setLocal_0 : decode cX2_setLocal 0 = .ok (.bipush 16, 2) := by decide +kernel
theorem dX2_setLocal_2 : decode cX2_setLocal 2 = .ok (.iconst 4, 1) := by decide +kernel
theorem dX2_setLocal_3 : decode cX2_setLocal 3 = .ok (.iload_n 1, 1) := by decide +kernel
theorem dX2_setLocal_4 : decode cX2_setLocal 4 = .ok (.imul, 1) := by decide +kernel
theorem dX2_setLocal_5 : decode cX2_setLocal 5 = .ok (.iadd, 1) := by decide +kernel
theorem dX2_setLocal_6 : decode cX2_setLocal 6 = .ok (.istore 4, 2) := by decide +kernel
theorem dX2_setLocal_8 : decode cX2_setLocal 8 = .ok (.aload_n 0, 1) := by decide +kernel
theorem dX2_setLocal_9 : decode cX2_setLocal 9 = .ok (.aload_n 0, 1) := by decide +kernel
theorem dX2_setLocal_10 : decode cX2_setLocal 10 = .ok (.getfield 9, 3) := by decide +kernel
theorem dX2_setLocal_13 : decode cX2_setLocal 13 = .ok (.ldc2_w 128, 3) := by decide +kernel
theorem dX2_setLocal_16 : decode cX2_setLocal 16 = .ok (.iload 4, 2) := by decide +kernel
theorem dX2_setLocal_18 : decode cX2_setLocal 18 = .ok (.lshl, 1) := by decide +kernel
theorem dX2_setLocal_19 : decode cX2_setLocal 19 = .ok (.ldc2_w 126, 3) := by decide +kernel
theorem dX2_setLocal_22 : decode cX2_setLocal 22 = .ok (.lxor, 1) := by decide +kernel
theorem dX2_setLocal_23 : decode cX2_setLocal 23 = .ok (.land, 1) := by decide +kernel
theorem dX2_setLocal_24 : decode cX2_setLocal 24 = .ok (.iload_n 2, 1) := by decide +kernel
theorem dX2_setLocal_25 : decode cX2_setLocal 25 = .ok (.i2l, 1) := by decide +kernel
theorem dX2_setLocal_26 : decode cX2_setLocal 26 = .ok (.iload 4, 2) := by decide +kernel
theorem dX2_setLocal_28 : decode cX2_setLocal 28 = .ok (.lshl, 1) := by decide +kernel
theorem dX2_setLocal_29 : decode cX2_setLocal 29 = .ok (.lor, 1) := by decide +kernel
theorem dX2_setLocal_30 : decode cX2_setLocal 30 = .ok (.putfield 9, 3) := by decide +kernel
theorem dX2_setLocal_33 : decode cX2_setLocal 33 = .ok (.aload_n 0, 1) := by decide +kernel
theorem dX2_setLocal_34 : decode cX2_setLocal 34 = .ok (.dup, 1) := by decide +kernel
theorem dX2_setLocal_35 : decode cX2_setLocal 35 = .ok (.getfield 9, 3) := by decide +kernel
theorem dX2_setLocal_38 : decode cX2_setLocal 38 = .ok (.lconst 1, 1) := by decide +kernel
theorem dX2_setLocal_39 : decode cX2_setLocal 39 = .ok (.bipush 42, 2) := by decide +kernel
theorem dX2_setLocal_41 : decode cX2_setLocal 41 = .ok (.iload_n 1, 1) := by decide +kernel
theorem dX2_setLocal_42 : decode cX2_setLocal 42 = .ok (.iadd, 1) := by decide +kernel
theorem dX2_setLocal_43 : decode cX2_setLocal 43 = .ok (.lshl, 1) := by decide +kernel
theorem dX2_setLocal_44 : decode cX2_setLocal 44 = .ok (.ldc2_w 126, 3) := by decide +kernel
theorem dX2_setLocal_47 : decode cX2_setLocal 47 = .ok (.lxor, 1) := by decide +kernel
theorem dX2_setLocal_48 : decode cX2_setLocal 48 = .ok (.land, 1) := by decide +kernel
theorem dX2_setLocal_49 : decode cX2_setLocal 49 = .ok (.putfield 9, 3) := by decide +kernel
theorem dX2_setLocal_52 : decode cX2_setLocal 52 = .ok (.iload_n 3, 1) := by decide +kernel
theorem dX2_setLocal_53 : decode cX2_setLocal 53 = .ok (.ifCond .eq 18, 3) := by decide +kernel
theorem dX2_setLocal_56 : decode cX2_setLocal 56 = .ok (.aload_n 0, 1) := by decide +kernel
theorem dX2_setLocal_57 : decode cX2_setLocal 57 = .ok (.dup, 1) := by decide +kernel
theorem dX2_setLocal_58 : decode cX2_setLocal 58 = .ok (.getfield 9, 3) := by decide +kernel
theorem dX2_setLocal_61 : decode cX2_setLocal 61 = .ok (.lconst 1, 1) := by decide +kernel
theorem dX2_setLocal_62 : decode cX2_setLocal 62 = .ok (.bipush 42, 2) := by decide +kernel
theorem dX2_setLocal_64 : decode cX2_setLocal 64 = .ok (.iload_n 1, 1) := by decide +kernel
theorem dX2_setLocal_65 : decode cX2_setLocal 65 = .ok (.iadd, 1) := by decide +kernel
theorem dX2_setLocal_66 : decode cX2_setLocal 66 = .ok (.lshl, 1) := by decide +kernel
theorem dX2_setLocal_67 : decode cX2_setLocal 67 = .ok (.lor, 1) := by decide +kernel
theorem dX2_setLocal_68 : decode cX2_setLocal 68 = .ok (.putfield 9, 3) := by decide +kernel
theorem dX2_setLocal_71 : decode cX2_setLocal 71 = .ok (.return_, 1) := by decide +kernel
theorem dX2_sumAt_0 : decode cX2_sumAt 0 = .ok (.aload_n 0, 1) := by decide +kernel
theorem dX2_sumAt_1 : decode cX2_sumAt 1 = .ok (.getfield 38, 3) := by decide +kernel
theorem dX2_sumAt_4 : decode cX2_sumAt 4 = .ok (.getfield 100, 3) := by decide +kernel
theorem dX2_sumAt_7 : decode cX2_sumAt 7 = .ok (.iload_n 1, 1) := by decide +kernel
theorem dX2_sumAt_8 : decode cX2_sumAt 8 = .ok (.bipush 63, 2) := by decide +kernel
theorem dX2_sumAt_10 : decode cX2_sumAt 10 = .ok (.iand, 1) := by decide +kernel
theorem dX2_sumAt_11 : decode cX2_sumAt 11 = .ok (.iaload, 1) := by decide +kernel
theorem dX2_sumAt_12 : decode cX2_sumAt 12 = .ok (.istore_n 2, 1) := by decide +kernel
theorem dX2_sumAt_13 : decode cX2_sumAt 13 = .ok (.aload_n 0, 1) := by decide +kernel
theorem dX2_sumAt_14 : decode cX2_sumAt 14 = .ok (.getfield 38, 3) := by decide +kernel
theorem dX2_sumAt_17 : decode cX2_sumAt 17 = .ok (.getfield 161, 3) := by decide +kernel
theorem dX2_sumAt_20 : decode cX2_sumAt 20 = .ok (.iload_n 1, 1) := by decide +kernel
theorem dX2_sumAt_21 : decode cX2_sumAt 21 = .ok (.bipush 63, 2) := by decide +kernel
theorem dX2_sumAt_23 : decode cX2_sumAt 23 = .ok (.iand, 1) := by decide +kernel
theorem dX2_sumAt_24 : decode cX2_sumAt 24 = .ok (.iaload, 1) := by decide +kernel
theorem dX2_sumAt_25 : decode cX2_sumAt 25 = .ok (.istore_n 3, 1) := by decide +kernel
theorem dX2_sumAt_26 : decode cX2_sumAt 26 = .ok (.iload_n 3, 1) := by decide +kernel
theorem dX2_sumAt_27 : decode cX2_sumAt 27 = .ok (.iconst (-1), 1) := by decide +kernel
theorem dX2_sumAt_28 : decode cX2_sumAt 28 = .ok (.if_icmp .ne 7, 3) := by decide +kernel
theorem dX2_sumAt_31 : decode cX2_sumAt 31 = .ok (.iconst 0, 1) := by decide +kernel
theorem dX2_sumAt_32 : decode cX2_sumAt 32 = .ok (.goto 4, 3) := by decide +kernel
theorem dX2_sumAt_35 : decode cX2_sumAt 35 = .ok (.iload_n 3, 1) := by decide +kernel
theorem dX2_sumAt_36 : decode cX2_sumAt 36 = .ok (.istore 4, 2) := by decide +kernel
theorem dX2_sumAt_38 : decode cX2_sumAt 38 = .ok (.iload_n 2, 1) := by decide +kernel
theorem dX2_sumAt_39 : decode cX2_sumAt 39 = .ok (.iconst (-1), 1) := by decide +kernel
theorem dX2_sumAt_40 : decode cX2_sumAt 40 = .ok (.if_icmp .eq 23, 3) := by decide +kernel
theorem dX2_sumAt_43 : decode cX2_sumAt 43 = .ok (.iload 4, 2) := by decide +kernel
theorem dX2_sumAt_45 : decode cX2_sumAt 45 = .ok (.aload_n 0, 1) := by decide +kernel
theorem dX2_sumAt_46 : decode cX2_sumAt 46 = .ok (.getfield 9, 3) := by decide +kernel
theorem dX2_sumAt_49 : decode cX2_sumAt 49 = .ok (.bipush 16, 2) := by decide +kernel
theorem dX2_sumAt_51 : decode cX2_sumAt 51 = .ok (.iconst 4, 1) := by decide +kernel
theorem dX2_sumAt_52 : decode cX2_sumAt 52 = .ok (.iload_n 2, 1) := by decide +kernel
theorem dX2_sumAt_53 : decode cX2_sumAt 53 = .ok (.imul, 1) := by decide +kernel
theorem dX2_sumAt_54 : decode cX2_sumAt 54 = .ok (.iadd, 1) := by decide +kernel
theorem dX2_sumAt_55 : decode cX2_sumAt 55 = .ok (.lushr, 1) := by decide +kernel
theorem dX2_sumAt_56 : decode cX2_sumAt 56 = .ok (.l2i, 1) := by decide +kernel
theorem dX2_sumAt_57 : decode cX2_sumAt 57 = .ok (.bipush 15, 2) := by decide +kernel
theorem dX2_sumAt_59 : decode cX2_sumAt 59 = .ok (.iand, 1) := by decide +kernel
theorem dX2_sumAt_60 : decode cX2_sumAt 60 = .ok (.iadd, 1) := by decide +kernel
theorem dX2_sumAt_61 : decode cX2_sumAt 61 = .ok (.istore 4, 2) := by decide +kernel
theorem dX2_sumAt_63 : decode cX2_sumAt 63 = .ok (.iload 4, 2) := by decide +kernel
theorem dX2_sumAt_65 : decode cX2_sumAt 65 = .ok (.bipush 10, 2) := by decide +kernel
theorem dX2_sumAt_67 : decode cX2_sumAt 67 = .ok (.irem, 1) := by decide +kernel
theorem dX2_sumAt_68 : decode cX2_sumAt 68 = .ok (.ireturn, 1) := by decide +kernel
theorem dX2_valueOf_0 : decode cX2_valueOf 0 = .ok (.aload_n 0, 1) := by decide +kernel
theorem dX2_valueOf_1 : decode cX2_valueOf 1 = .ok (.getfield 9, 3) := by decide +kernel
theorem dX2_valueOf_4 : decode cX2_valueOf 4 = .ok (.bipush 16, 2) := by decide +kernel
theorem dX2_valueOf_6 : decode cX2_valueOf 6 = .ok (.iconst 4, 1) := by decide +kernel
theorem dX2_valueOf_7 : decode cX2_valueOf 7 = .ok (.iload_n 1, 1) := by decide +kernel
theorem dX2_valueOf_8 : decode cX2_valueOf 8 = .ok (.imul, 1) := by decide +kernel
theorem dX2_valueOf_9 : decode cX2_valueOf 9 = .ok (.iadd, 1) := by decide +kernel
theorem dX2_valueOf_10 : decode cX2_valueOf 10 = .ok (.lushr, 1) := by decide +kernel
theorem dX2_valueOf_11 : decode cX2_valueOf 11 = .ok (.l2i, 1) := by decide +kernel
theorem dX2_valueOf_12 : decode cX2_valueOf 12 = .ok (.bipush 15, 2) := by decide +kernel
theorem dX2_valueOf_14 : decode cX2_valueOf 14 = .ok (.iand, 1) := by decide +kernel
theorem dX2_valueOf_15 : decode cX2_valueOf 15 = .ok (.ireturn, 1) := by decide +kernel
theorem dX2_goOn_0 : decode cX2_goOn 0 = .ok (.iload_n 2, 1) := by decide +kernel
theorem dX2_goOn_1 : decode cX2_goOn 1 = .ok (.bipush 63, 2) := by decide +kernel
theorem dX2_goOn_3 : decode cX2_goOn 3 = .ok (.iand, 1) := by decide +kernel
theorem dX2_goOn_4 : decode cX2_goOn 4 = .ok (.istore_n 3, 1) := by decide +kernel
theorem dX2_goOn_5 : decode cX2_goOn 5 = .ok (.bipush 8, 2) := by decide +kernel
theorem dX2_goOn_7 : decode cX2_goOn 7 = .ok (.istore 4, 2) := by decide +kernel
theorem dX2_goOn_9 : decode cX2_goOn 9 = .ok (.iconst 0, 1) := by decide +kernel
theorem dX2_goOn_10 : decode cX2_goOn 10 = .ok (.istore 5, 2) := by decide +kernel
theorem dX2_goOn_12 : decode cX2_goOn 12 = .ok (.iload 5, 2) := by decide +kernel
theorem dX2_goOn_14 : decode cX2_goOn 14 = .ok (.bipush 64, 2) := by decide +kernel
theorem dX2_goOn_16 : decode cX2_goOn 16 = .ok (.if_icmp .ge 167, 3) := by decide +kernel
theorem dX2_goOn_19 : decode cX2_goOn 19 = .ok (.aload_n 0, 1) := by decide +kernel
theorem dX2_goOn_20 : decode cX2_goOn 20 = .ok (.getfield 38, 3) := by decide +kernel
theorem dX2_goOn_23 : decode cX2_goOn 23 = .ok (.getfield 87, 3) := by decide +kernel
theorem dX2_goOn_26 : decode cX2_goOn 26 = .ok (.iload_n 3, 1) := by decide +kernel
theorem dX2_goOn_27 : decode cX2_goOn 27 = .ok (.iaload, 1) := by decide +kernel
theorem dX2_goOn_28 : decode cX2_goOn 28 = .ok (.bipush 10, 2) := by decide +kernel
theorem dX2_goOn_30 : decode cX2_goOn 30 = .ok (.if_icmp .eq 153, 3) := by decide +kernel
theorem dX2_goOn_33 : decode cX2_goOn 33 = .ok (.aload_n 0, 1) := by decide +kernel
theorem dX2_goOn_34 : decode cX2_goOn 34 = .ok (.getfield 38, 3) := by decide +kernel
theorem dX2_goOn_37 : decode cX2_goOn 37 = .ok (.getfield 164, 3) := by decide +kernel
theorem dX2_goOn_40 : decode cX2_goOn 40 = .ok (.iload_n 3, 1) := by decide +kernel
theorem dX2_goOn_41 : decode cX2_goOn 41 = .ok (.iaload, 1) := by decide +kernel
theorem dX2_goOn_42 : decode cX2_goOn 42 = .ok (.iconst (-1), 1) := by decide +kernel
theorem dX2_goOn_43 : decode cX2_goOn 43 = .ok (.if_icmp .eq 17, 3) := by decide +kernel
theorem dX2_goOn_46 : decode cX2_goOn 46 = .ok (.aload_n 0, 1) := by decide +kernel
theorem dX2_goOn_47 : decode cX2_goOn 47 = .ok (.getfield 38, 3) := by decide +kernel
theorem dX2_goOn_50 : decode cX2_goOn 50 = .ok (.getfield 164, 3) := by decide +kernel
theorem dX2_goOn_53 : decode cX2_goOn 53 = .ok (.iload_n 3, 1) := by decide +kernel
theorem dX2_goOn_54 : decode cX2_goOn 54 = .ok (.iaload, 1) := by decide +kernel
theorem dX2_goOn_55 : decode cX2_goOn 55 = .ok (.istore 4, 2) := by decide +kernel
theorem dX2_goOn_57 : decode cX2_goOn 57 = .ok (.goto 126, 3) := by decide +kernel
theorem dX2_goOn_60 : decode cX2_goOn 60 = .ok (.aload_n 0, 1) := by decide +kernel
theorem dX2_goOn_61 : decode cX2_goOn 61 = .ok (.getfield 38, 3) := by decide +kernel
theorem dX2_goOn_64 : decode cX2_goOn 64 = .ok (.getfield 87, 3) := by decide +kernel
theorem dX2_goOn_67 : decode cX2_goOn 67 = .ok (.iload_n 3, 1) := by decide +kernel
theorem dX2_goOn_68 : decode cX2_goOn 68 = .ok (.iaload, 1) := by decide +kernel
theorem dX2_goOn_69 : decode cX2_goOn 69 = .ok (.bipush 8, 2) := by decide +kernel
theorem dX2_goOn_71 : decode cX2_goOn 71 = .ok (.if_icmp .eq 42, 3) := by decide +kernel
theorem dX2_goOn_74 : decode cX2_goOn 74 = .ok (.aload_n 0, 1) := by decide +kernel
theorem dX2_goOn_75 : decode cX2_goOn 75 = .ok (.getfield 38, 3) := by decide +kernel
theorem dX2_goOn_78 : decode cX2_goOn 78 = .ok (.getfield 87, 3) := by decide +kernel
theorem dX2_goOn_81 : decode cX2_goOn 81 = .ok (.iload_n 3, 1) := by decide +kernel
theorem dX2_goOn_82 : decode cX2_goOn 82 = .ok (.iaload, 1) := by decide +kernel
theorem dX2_goOn_83 : decode cX2_goOn 83 = .ok (.bipush 7, 2) := by decide +kernel
theorem dX2_goOn_85 : decode cX2_goOn 85 = .ok (.if_icmp .ne 32, 3) := by decide +kernel
theorem dX2_goOn_88 : decode cX2_goOn 88 = .ok (.aload_n 0, 1) := by decide +kernel
theorem dX2_goOn_89 : decode cX2_goOn 89 = .ok (.aload_n 0, 1) := by decide +kernel
theorem dX2_goOn_90 : decode cX2_goOn 90 = .ok (.getfield 38, 3) := by decide +kernel
theorem dX2_goOn_93 : decode cX2_goOn 93 = .ok (.getfield 130, 3) := by decide +kernel
theorem dX2_goOn_96 : decode cX2_goOn 96 = .ok (.iload_n 3, 1) := by decide +kernel
theorem dX2_goOn_97 : decode cX2_goOn 97 = .ok (.iaload, 1) := by decide +kernel
theorem dX2_goOn_98 : decode cX2_goOn 98 = .ok (.invokevirtual 74, 3) := by decide +kernel
theorem dX2_goOn_101 : decode cX2_goOn 101 = .ok (.aload_n 0, 1) := by decide +kernel
theorem dX2_goOn_102 : decode cX2_goOn 102 = .ok (.getfield 38, 3) := by decide +kernel
theorem dX2_goOn_105 : decode cX2_goOn 105 = .ok (.getfield 161, 3) := by decide +kernel
theorem dX2_goOn_108 : decode cX2_goOn 108 = .ok (.iload_n 3, 1) := by decide +kernel
theorem dX2_goOn_109 : decode cX2_goOn 109 = .ok (.iaload, 1) := by decide +kernel
theorem dX2_goOn_110 : decode cX2_goOn 110 = .ok (.if_icmp .eq 7, 3) := by decide +kernel
theorem dX2_goOn_113 : decode cX2_goOn 113 = .ok (.iconst 1, 1) := by decide +kernel
theorem dX2_goOn_114 : decode cX2_goOn 114 = .ok (.goto 4, 3) := by decide +kernel
theorem dX2_goOn_117 : decode cX2_goOn 117 = .ok (.iconst 0, 1) := by decide +kernel
theorem dX2_goOn_118 : decode cX2_goOn 118 = .ok (.istore 6, 2) := by decide +kernel
theorem dX2_goOn_120 : decode cX2_goOn 120 = .ok (.aload_n 0, 1) := by decide +kernel
theorem dX2_goOn_121 : decode cX2_goOn 121 = .ok (.getfield 38, 3) := by decide +kernel
theorem dX2_goOn_124 : decode cX2_goOn 124 = .ok (.getfield 87, 3) := by decide +kernel
theorem dX2_goOn_127 : decode cX2_goOn 127 = .ok (.iload_n 3, 1) := by decide +kernel
theorem dX2_goOn_128 : decode cX2_goOn 128 = .ok (.iaload, 1) := by decide +kernel
theorem dX2_goOn_129 : decode cX2_goOn 129 = .ok (.bipush 6, 2) := by decide +kernel
theorem dX2_goOn_131 : decode cX2_goOn 131 = .ok (.if_icmp .ne 22, 3) := by decide +kernel
theorem dX2_goOn_134 : decode cX2_goOn 134 = .ok (.aload_n 0, 1) := by decide +kernel
theorem dX2_goOn_135 : decode cX2_goOn 135 = .ok (.aload_n 0, 1) := by decide +kernel
theorem dX2_goOn_136 : decode cX2_goOn 136 = .ok (.getfield 38, 3) := by decide +kernel
theorem dX2_goOn_139 : decode cX2_goOn 139 = .ok (.getfield 130, 3) := by decide +kernel
theorem dX2_goOn_142 : decode cX2_goOn 142 = .ok (.iload_n 3, 1) := by decide +kernel
theorem dX2_goOn_143 : decode cX2_goOn 143 = .ok (.iaload, 1) := by decide +kernel
theorem dX2_goOn_144 : decode cX2_goOn 144 = .ok (.aload_n 0, 1) := by decide +kernel
theorem dX2_goOn_145 : decode cX2_goOn 145 = .ok (.iload_n 3, 1) := by decide +kernel
theorem dX2_goOn_146 : decode cX2_goOn 146 = .ok (.invokevirtual 143, 3) := by decide +kernel
theorem dX2_goOn_149 : decode cX2_goOn 149 = .ok (.iconst 0, 1) := by decide +kernel
theorem dX2_goOn_150 : decode cX2_goOn 150 = .ok (.invokevirtual 139, 3) := by decide +kernel
theorem dX2_goOn_153 : decode cX2_goOn 153 = .ok (.iload 6, 2) := by decide +kernel
theorem dX2_goOn_155 : decode cX2_goOn 155 = .ok (.ifCond .eq 15, 3) := by decide +kernel
theorem dX2_goOn_158 : decode cX2_goOn 158 = .ok (.aload_n 0, 1) := by decide +kernel
theorem dX2_goOn_159 : decode cX2_goOn 159 = .ok (.getfield 38, 3) := by decide +kernel
theorem dX2_goOn_162 : decode cX2_goOn 162 = .ok (.getfield 167, 3) := by decide +kernel
theorem dX2_goOn_165 : decode cX2_goOn 165 = .ok (.iload_n 3, 1) := by decide +kernel
theorem dX2_goOn_166 : decode cX2_goOn 166 = .ok (.iaload, 1) := by decide +kernel
theorem dX2_goOn_167 : decode cX2_goOn 167 = .ok (.goto 6, 3) := by decide +kernel
theorem dX2_goOn_170 : decode cX2_goOn 170 = .ok (.iload_n 3, 1) := by decide +kernel
theorem dX2_goOn_171 : decode cX2_goOn 171 = .ok (.iconst 1, 1) := by decide +kernel
theorem dX2_goOn_172 : decode cX2_goOn 172 = .ok (.iadd, 1) := by decide +kernel
theorem dX2_goOn_173 : decode cX2_goOn 173 = .ok (.bipush 63, 2) := by decide +kernel
theorem dX2_goOn_175 : decode cX2_goOn 175 = .ok (.iand, 1) := by decide +kernel
theorem dX2_goOn_176 : decode cX2_goOn 176 = .ok (.istore_n 3, 1) := by decide +kernel
theorem dX2_goOn_177 : decode cX2_goOn 177 = .ok (.iinc 5 1, 3) := by decide +kernel
theorem dX2_goOn_180 : decode cX2_goOn 180 = .ok (.goto (-168), 3) := by decide +kernel
theorem dX2_goOn_183 : decode cX2_goOn 183 = .ok (.aload_n 0, 1) := by decide +kernel
theorem dX2_goOn_184 : decode cX2_goOn 184 = .ok (.aload_n 0, 1) := by decide +kernel
theorem dX2_goOn_185 : decode cX2_goOn 185 = .ok (.getfield 9, 3) := by decide +kernel
theorem dX2_goOn_188 : decode cX2_goOn 188 = .ok (.ldc2_w 128, 3) := by decide +kernel
theorem dX2_goOn_191 : decode cX2_goOn 191 = .ok (.iconst 4, 1) := by decide +kernel
theorem dX2_goOn_192 : decode cX2_goOn 192 = .ok (.iload_n 1, 1) := by decide +kernel
theorem dX2_goOn_193 : decode cX2_goOn 193 = .ok (.imul, 1) := by decide +kernel
theorem dX2_goOn_194 : decode cX2_goOn 194 = .ok (.lshl, 1) := by decide +kernel
theorem dX2_goOn_195 : decode cX2_goOn 195 = .ok (.ldc2_w 126, 3) := by decide +kernel
theorem dX2_goOn_198 : decode cX2_goOn 198 = .ok (.lxor, 1) := by decide +kernel
theorem dX2_goOn_199 : decode cX2_goOn 199 = .ok (.land, 1) := by decide +kernel
theorem dX2_goOn_200 : decode cX2_goOn 200 = .ok (.iload 4, 2) := by decide +kernel
theorem dX2_goOn_202 : decode cX2_goOn 202 = .ok (.i2l, 1) := by decide +kernel
theorem dX2_goOn_203 : decode cX2_goOn 203 = .ok (.iconst 4, 1) := by decide +kernel
theorem dX2_goOn_204 : decode cX2_goOn 204 = .ok (.iload_n 1, 1) := by decide +kernel
theorem dX2_goOn_205 : decode cX2_goOn 205 = .ok (.imul, 1) := by decide +kernel
theorem dX2_goOn_206 : decode cX2_goOn 206 = .ok (.lshl, 1) := by decide +kernel
theorem dX2_goOn_207 : decode cX2_goOn 207 = .ok (.lor, 1) := by decide +kernel
theorem dX2_goOn_208 : decode cX2_goOn 208 = .ok (.putfield 9, 3) := by decide +kernel
theorem dX2_goOn_211 : decode cX2_goOn 211 = .ok (.return_, 1) := by decide +kernel
theorem dX2_set_0 : decode cX2_set 0 = .ok (.aload_n 0, 1) := by decide +kernel
theorem dX2_set_1 : decode cX2_set 1 = .ok (.lload_n 1, 1) := by decide +kernel
theorem dX2_set_2 : decode cX2_set 2 = .ok (.putfield 9, 3) := by decide +kernel
theorem dX2_set_5 : decode cX2_set 5 = .ok (.aload_n 0, 1) := by decide +kernel
theorem dX2_set_6 : decode cX2_set 6 = .ok (.lload_n 3, 1) := by decide +kernel
theorem dX2_set_7 : decode cX2_set 7 = .ok (.putfield 15, 3) := by decide +kernel
theorem dX2_set_10 : decode cX2_set 10 = .ok (.aload_n 0, 1) := by decide +kernel
theorem dX2_set_11 : decode cX2_set 11 = .ok (.lload 5, 2) := by decide +kernel
theorem dX2_set_13 : decode cX2_set 13 = .ok (.putfield 18, 3) := by decide +kernel
theorem dX2_set_16 : decode cX2_set 16 = .ok (.return_, 1) := by decide +kernel
theorem dX2_begin_0 : decode cX2_begin 0 = .ok (.aload_n 0, 1) := by decide +kernel
theorem dX2_begin_1 : decode cX2_begin 1 = .ok (.aload_n 1, 1) := by decide +kernel
theorem dX2_begin_2 : decode cX2_begin 2 = .ok (.putfield 38, 3) := by decide +kernel
theorem dX2_begin_5 : decode cX2_begin 5 = .ok (.aload_n 0, 1) := by decide +kernel
theorem dX2_begin_6 : decode cX2_begin 6 = .ok (.iload_n 2, 1) := by decide +kernel
theorem dX2_begin_7 : decode cX2_begin 7 = .ok (.putfield 21, 3) := by decide +kernel
theorem dX2_begin_10 : decode cX2_begin 10 = .ok (.aload_n 0, 1) := by decide +kernel
theorem dX2_begin_11 : decode cX2_begin 11 = .ok (.iload_n 3, 1) := by decide +kernel
theorem dX2_begin_12 : decode cX2_begin 12 = .ok (.putfield 42, 3) := by decide +kernel
theorem dX2_begin_15 : decode cX2_begin 15 = .ok (.iconst 0, 1) := by decide +kernel
theorem dX2_begin_16 : decode cX2_begin 16 = .ok (.istore 4, 2) := by decide +kernel
theorem dX2_begin_18 : decode cX2_begin 18 = .ok (.iload 4, 2) := by decide +kernel
theorem dX2_begin_20 : decode cX2_begin 20 = .ok (.bipush 6, 2) := by decide +kernel
theorem dX2_begin_22 : decode cX2_begin 22 = .ok (.if_icmp .ge 26, 3) := by decide +kernel
theorem dX2_begin_25 : decode cX2_begin 25 = .ok (.aload_n 0, 1) := by decide +kernel
theorem dX2_begin_26 : decode cX2_begin 26 = .ok (.getfield 25, 3) := by decide +kernel
theorem dX2_begin_29 : decode cX2_begin 29 = .ok (.iload 4, 2) := by decide +kernel
theorem dX2_begin_31 : decode cX2_begin 31 = .ok (.aload_n 0, 1) := by decide +kernel
theorem dX2_begin_32 : decode cX2_begin 32 = .ok (.getfield 38, 3) := by decide +kernel
theorem dX2_begin_35 : decode cX2_begin 35 = .ok (.iconst 1, 1) := by decide +kernel
theorem dX2_begin_36 : decode cX2_begin 36 = .ok (.iload 4, 2) := by decide +kernel
theorem dX2_begin_38 : decode cX2_begin 38 = .ok (.invokevirtual 45, 3) := by decide +kernel
theorem dX2_begin_41 : decode cX2_begin 41 = .ok (.iastore, 1) := by decide +kernel
theorem dX2_begin_42 : decode cX2_begin 42 = .ok (.iinc 4 1, 3) := by decide +kernel
theorem dX2_begin_45 : decode cX2_begin 45 = .ok (.goto (-27), 3) := by decide +kernel
theorem dX2_begin_48 : decode cX2_begin 48 = .ok (.iconst 0, 1) := by decide +kernel
theorem dX2_begin_49 : decode cX2_begin 49 = .ok (.istore 4, 2) := by decide +kernel
theorem dX2_begin_51 : decode cX2_begin 51 = .ok (.iload 4, 2) := by decide +kernel
theorem dX2_begin_53 : decode cX2_begin 53 = .ok (.iconst 2, 1) := by decide +kernel
theorem dX2_begin_54 : decode cX2_begin 54 = .ok (.if_icmp .ge 26, 3) := by decide +kernel
theorem dX2_begin_57 : decode cX2_begin 57 = .ok (.aload_n 0, 1) := by decide +kernel
theorem dX2_begin_58 : decode cX2_begin 58 = .ok (.getfield 29, 3) := by decide +kernel
theorem dX2_begin_61 : decode cX2_begin 61 = .ok (.iload 4, 2) := by decide +kernel
theorem dX2_begin_63 : decode cX2_begin 63 = .ok (.aload_n 0, 1) := by decide +kernel
theorem dX2_begin_64 : decode cX2_begin 64 = .ok (.getfield 38, 3) := by decide +kernel
theorem dX2_begin_67 : decode cX2_begin 67 = .ok (.iconst 4, 1) := by decide +kernel
theorem dX2_begin_68 : decode cX2_begin 68 = .ok (.iload 4, 2) := by decide +kernel
theorem dX2_begin_70 : decode cX2_begin 70 = .ok (.invokevirtual 45, 3) := by decide +kernel
theorem dX2_begin_73 : decode cX2_begin 73 = .ok (.iastore, 1) := by decide +kernel
theorem dX2_begin_74 : decode cX2_begin 74 = .ok (.iinc 4 1, 3) := by decide +kernel
theorem dX2_begin_77 : decode cX2_begin 77 = .ok (.goto (-26), 3) := by decide +kernel
theorem dX2_begin_80 : decode cX2_begin 80 = .ok (.aload_n 0, 1) := by decide +kernel
theorem dX2_begin_81 : decode cX2_begin 81 = .ok (.getfield 32, 3) := by decide +kernel
theorem dX2_begin_84 : decode cX2_begin 84 = .ok (.iconst 0, 1) := by decide +kernel
theorem dX2_begin_85 : decode cX2_begin 85 = .ok (.invokestatic 49, 3) := by decide +kernel
theorem dX2_begin_88 : decode cX2_begin 88 = .ok (.iconst 0, 1) := by decide +kernel
theorem dX2_begin_89 : decode cX2_begin 89 = .ok (.istore 4, 2) := by decide +kernel
theorem dX2_begin_91 : decode cX2_begin 91 = .ok (.iload 4, 2) := by decide +kernel
theorem dX2_begin_93 : decode cX2_begin 93 = .ok (.aload_n 0, 1) := by decide +kernel
theorem dX2_begin_94 : decode cX2_begin 94 = .ok (.getfield 38, 3) := by decide +kernel
theorem dX2_begin_97 : decode cX2_begin 97 = .ok (.getfield 55, 3) := by decide +kernel
theorem dX2_begin_100 : decode cX2_begin 100 = .ok (.if_icmp .ge 40, 3) := by decide +kernel
theorem dX2_begin_103 : decode cX2_begin 103 = .ok (.iload 4, 2) := by decide +kernel
theorem dX2_begin_105 : decode cX2_begin 105 = .ok (.bipush 8, 2) := by decide +kernel
theorem dX2_begin_107 : decode cX2_begin 107 = .ok (.if_icmp .ge 33, 3) := by decide +kernel
theorem dX2_begin_110 : decode cX2_begin 110 = .ok (.aload_n 0, 1) := by decide +kernel
theorem dX2_begin_111 : decode cX2_begin 111 = .ok (.getfield 32, 3) := by decide +kernel
theorem dX2_begin_114 : decode cX2_begin 114 = .ok (.aload_n 0, 1) := by decide +kernel
theorem dX2_begin_115 : decode cX2_begin 115 = .ok (.getfield 38, 3) := by decide +kernel
theorem dX2_begin_118 : decode cX2_begin 118 = .ok (.getfield 58, 3) := by decide +kernel
theorem dX2_begin_121 : decode cX2_begin 121 = .ok (.iload 4, 2) := by decide +kernel
theorem dX2_begin_123 : decode cX2_begin 123 = .ok (.iaload, 1) := by decide +kernel
theorem dX2_begin_124 : decode cX2_begin 124 = .ok (.iconst 3, 1) := by decide +kernel
theorem dX2_begin_125 : decode cX2_begin 125 = .ok (.iand, 1) := by decide +kernel
theorem dX2_begin_126 : decode cX2_begin 126 = .ok (.dup2, 1) := by decide +kernel
theorem dX2_begin_127 : decode cX2_begin 127 = .ok (.iaload, 1) := by decide +kernel
theorem dX2_begin_128 : decode cX2_begin 128 = .ok (.iconst 1, 1) := by decide +kernel
theorem dX2_begin_129 : decode cX2_begin 129 = .ok (.iload 4, 2) := by decide +kernel
theorem dX2_begin_131 : decode cX2_begin 131 = .ok (.ishl, 1) := by decide +kernel
theorem dX2_begin_132 : decode cX2_begin 132 = .ok (.ior, 1) := by decide +kernel
theorem dX2_begin_133 : decode cX2_begin 133 = .ok (.iastore, 1) := by decide +kernel
theorem dX2_begin_134 : decode cX2_begin 134 = .ok (.iinc 4 1, 3) := by decide +kernel
theorem dX2_begin_137 : decode cX2_begin 137 = .ok (.goto (-46), 3) := by decide +kernel
theorem dX2_begin_140 : decode cX2_begin 140 = .ok (.aload_n 0, 1) := by decide +kernel
theorem dX2_begin_141 : decode cX2_begin 141 = .ok (.lconst 0, 1) := by decide +kernel
theorem dX2_begin_142 : decode cX2_begin 142 = .ok (.lconst 0, 1) := by decide +kernel
theorem dX2_begin_143 : decode cX2_begin 143 = .ok (.lconst 0, 1) := by decide +kernel
theorem dX2_begin_144 : decode cX2_begin 144 = .ok (.invokevirtual 61, 3) := by decide +kernel
theorem dX2_begin_147 : decode cX2_begin 147 = .ok (.iconst 0, 1) := by decide +kernel
theorem dX2_begin_148 : decode cX2_begin 148 = .ok (.istore 4, 2) := by decide +kernel
theorem dX2_begin_150 : decode cX2_begin 150 = .ok (.iload 4, 2) := by decide +kernel
theorem dX2_begin_152 : decode cX2_begin 152 = .ok (.aload_n 0, 1) := by decide +kernel
theorem dX2_begin_153 : decode cX2_begin 153 = .ok (.getfield 38, 3) := by decide +kernel
theorem dX2_begin_156 : decode cX2_begin 156 = .ok (.getfield 65, 3) := by decide +kernel
theorem dX2_begin_159 : decode cX2_begin 159 = .ok (.if_icmp .ge 31, 3) := by decide +kernel
theorem dX2_begin_162 : decode cX2_begin 162 = .ok (.iload 4, 2) := by decide +kernel
theorem dX2_begin_164 : decode cX2_begin 164 = .ok (.iconst 4, 1) := by decide +kernel
theorem dX2_begin_165 : decode cX2_begin 165 = .ok (.if_icmp .ge 25, 3) := by decide +kernel
theorem dX2_begin_168 : decode cX2_begin 168 = .ok (.aload_n 0, 1) := by decide +kernel
theorem dX2_begin_169 : decode cX2_begin 169 = .ok (.iload 4, 2) := by decide +kernel
theorem dX2_begin_171 : decode cX2_begin 171 = .ok (.aload_n 0, 1) := by decide +kernel
theorem dX2_begin_172 : decode cX2_begin 172 = .ok (.getfield 38, 3) := by decide +kernel
theorem dX2_begin_175 : decode cX2_begin 175 = .ok (.getfield 67, 3) := by decide +kernel
theorem dX2_begin_178 : decode cX2_begin 178 = .ok (.iload 4, 2) := by decide +kernel
theorem dX2_begin_180 : decode cX2_begin 180 = .ok (.iaload, 1) := by decide +kernel
theorem dX2_begin_181 : decode cX2_begin 181 = .ok (.invokevirtual 70, 3) := by decide +kernel
theorem dX2_begin_184 : decode cX2_begin 184 = .ok (.iinc 4 1, 3) := by decide +kernel
theorem dX2_begin_187 : decode cX2_begin 187 = .ok (.goto (-37), 3) := by decide +kernel
theorem dX2_begin_190 : decode cX2_begin 190 = .ok (.return_, 1) := by decide +kernel
theorem dX2_doneActions_0 : decode cX2_doneActions 0 = .ok (.aload_n 0, 1) := by decide +kernel
theorem dX2_doneActions_1 : decode cX2_doneActions 1 = .ok (.getfield 9, 3) := by decide +kernel
theorem dX2_doneActions_4 : decode cX2_doneActions 4 = .ok (.bipush 47, 2) := by decide +kernel
theorem dX2_doneActions_6 : decode cX2_doneActions 6 = .ok (.lushr, 1) := by decide +kernel
theorem dX2_doneActions_7 : decode cX2_doneActions 7 = .ok (.l2i, 1) := by decide +kernel
theorem dX2_doneActions_8 : decode cX2_doneActions 8 = .ok (.sipush 255, 3) := by decide +kernel
theorem dX2_doneActions_11 : decode cX2_doneActions 11 = .ok (.iand, 1) := by decide +kernel
theorem dX2_doneActions_12 : decode cX2_doneActions 12 = .ok (.ireturn, 1) := by decide +kernel
theorem dX2_earlierThan_0 : decode cX2_earlierThan 0 = .ok (.aload_n 0, 1) := by decide +kernel
theorem dX2_earlierThan_1 : decode cX2_earlierThan 1 = .ok (.getfield 18, 3) := by decide +kernel
theorem dX2_earlierThan_4 : decode cX2_earlierThan 4 = .ok (.bipush 8, 2) := by decide +kernel
theorem dX2_earlierThan_6 : decode cX2_earlierThan 6 = .ok (.iload_n 1, 1) := by decide +kernel
theorem dX2_earlierThan_7 : decode cX2_earlierThan 7 = .ok (.imul, 1) := by decide +kernel
theorem dX2_earlierThan_8 : decode cX2_earlierThan 8 = .ok (.lushr, 1) := by decide +kernel
theorem dX2_earlierThan_9 : decode cX2_earlierThan 9 = .ok (.l2i, 1) := by decide +kernel
theorem dX2_earlierThan_10 : decode cX2_earlierThan 10 = .ok (.sipush 255, 3) := by decide +kernel
theorem dX2_earlierThan_13 : decode cX2_earlierThan 13 = .ok (.iand, 1) := by decide +kernel
theorem dX2_earlierThan_14 : decode cX2_earlierThan 14 = .ok (.ireturn, 1) := by decide +kernel
theorem dX2_hasPublished_0 : decode cX2_hasPublished 0 = .ok (.aload_n 0, 1) := by decide +kernel
theorem dX2_hasPublished_1 : decode cX2_hasPublished 1 = .ok (.getfield 9, 3) := by decide +kernel
theorem dX2_hasPublished_4 : decode cX2_hasPublished 4 = .ok (.bipush 42, 2) := by decide +kernel
theorem dX2_hasPublished_6 : decode cX2_hasPublished 6 = .ok (.iload_n 1, 1) := by decide +kernel
theorem dX2_hasPublished_7 : decode cX2_hasPublished 7 = .ok (.iadd, 1) := by decide +kernel
theorem dX2_hasPublished_8 : decode cX2_hasPublished 8 = .ok (.lushr, 1) := by decide +kernel
theorem dX2_hasPublished_9 : decode cX2_hasPublished 9 = .ok (.lconst 1, 1) := by decide +kernel
theorem dX2_hasPublished_10 : decode cX2_hasPublished 10 = .ok (.land, 1) := by decide +kernel
theorem dX2_hasPublished_11 : decode cX2_hasPublished 11 = .ok (.lconst 0, 1) := by decide +kernel
theorem dX2_hasPublished_12 : decode cX2_hasPublished 12 = .ok (.lcmp, 1) := by decide +kernel
theorem dX2_hasPublished_13 : decode cX2_hasPublished 13 = .ok (.ifCond .eq 7, 3) := by decide +kernel
theorem dX2_hasPublished_16 : decode cX2_hasPublished 16 = .ok (.iconst 1, 1) := by decide +kernel
theorem dX2_hasPublished_17 : decode cX2_hasPublished 17 = .ok (.goto 4, 3) := by decide +kernel
theorem dX2_hasPublished_20 : decode cX2_hasPublished 20 = .ok (.iconst 0, 1) := by decide +kernel
theorem dX2_hasPublished_21 : decode cX2_hasPublished 21 = .ok (.ireturn, 1) := by decide +kernel
theorem dX2_isVolatile_0 : decode cX2_isVolatile 0 = .ok (.aload_n 0, 1) := by decide +kernel
theorem dX2_isVolatile_1 : decode cX2_isVolatile 1 = .ok (.getfield 42, 3) := by decide +kernel
theorem dX2_isVolatile_4 : decode cX2_isVolatile 4 = .ok (.iload_n 1, 1) := by decide +kernel
theorem dX2_isVolatile_5 : decode cX2_isVolatile 5 = .ok (.ishr, 1) := by decide +kernel
theorem dX2_isVolatile_6 : decode cX2_isVolatile 6 = .ok (.iconst 1, 1) := by decide +kernel
theorem dX2_isVolatile_7 : decode cX2_isVolatile 7 = .ok (.iand, 1) := by decide +kernel
theorem dX2_isVolatile_8 : decode cX2_isVolatile 8 = .ok (.ifCond .eq 7, 3) := by decide +kernel
theorem dX2_isVolatile_11 : decode cX2_isVolatile 11 = .ok (.iconst 1, 1) := by decide +kernel
theorem dX2_isVolatile_12 : decode cX2_isVolatile 12 = .ok (.goto 4, 3) := by decide +kernel
theorem dX2_isVolatile_15 : decode cX2_isVolatile 15 = .ok (.iconst 0, 1) := by decide +kernel
theorem dX2_isVolatile_16 : decode cX2_isVolatile 16 = .ok (.ireturn, 1) := by decide +kernel
theorem dX2_aheadOf_0 : decode cX2_aheadOf 0 = .ok (.aload_n 0, 1) := by decide +kernel
theorem dX2_aheadOf_1 : decode cX2_aheadOf 1 = .ok (.getfield 32, 3) := by decide +kernel
theorem dX2_aheadOf_4 : decode cX2_aheadOf 4 = .ok (.iload_n 1, 1) := by decide +kernel
theorem dX2_aheadOf_5 : decode cX2_aheadOf 5 = .ok (.iconst 3, 1) := by decide +kernel
theorem dX2_aheadOf_6 : decode cX2_aheadOf 6 = .ok (.iand, 1) := by decide +kernel
theorem dX2_aheadOf_7 : decode cX2_aheadOf 7 = .ok (.iaload, 1) := by decide +kernel
theorem dX2_aheadOf_8 : decode cX2_aheadOf 8 = .ok (.aload_n 0, 1) := by decide +kernel
theorem dX2_aheadOf_9 : decode cX2_aheadOf 9 = .ok (.invokevirtual 109, 3) := by decide +kernel
theorem dX2_aheadOf_12 : decode cX2_aheadOf 12 = .ok (.iand, 1) := by decide +kernel
theorem dX2_aheadOf_13 : decode cX2_aheadOf 13 = .ok (.istore 4, 2) := by decide +kernel
theorem dX2_aheadOf_15 : decode cX2_aheadOf 15 = .ok (.aload_n 0, 1) := by decide +kernel
theorem dX2_aheadOf_16 : decode cX2_aheadOf 16 = .ok (.getfield 38, 3) := by decide +kernel
theorem dX2_aheadOf_19 : decode cX2_aheadOf 19 = .ok (.getfield 87, 3) := by decide +kernel
theorem dX2_aheadOf_22 : decode cX2_aheadOf 22 = .ok (.iload_n 2, 1) := by decide +kernel
theorem dX2_aheadOf_23 : decode cX2_aheadOf 23 = .ok (.bipush 63, 2) := by decide +kernel
theorem dX2_aheadOf_25 : decode cX2_aheadOf 25 = .ok (.iand, 1) := by decide +kernel
theorem dX2_aheadOf_26 : decode cX2_aheadOf 26 = .ok (.iaload, 1) := by decide +kernel
theorem dX2_aheadOf_27 : decode cX2_aheadOf 27 = .ok (.istore 5, 2) := by decide +kernel
theorem dX2_aheadOf_29 : decode cX2_aheadOf 29 = .ok (.aload_n 0, 1) := by decide +kernel
theorem dX2_aheadOf_30 : decode cX2_aheadOf 30 = .ok (.getfield 38, 3) := by decide +kernel
theorem dX2_aheadOf_33 : decode cX2_aheadOf 33 = .ok (.getfield 90, 3) := by decide +kernel
theorem dX2_aheadOf_36 : decode cX2_aheadOf 36 = .ok (.iload_n 2, 1) := by decide +kernel
theorem dX2_aheadOf_37 : decode cX2_aheadOf 37 = .ok (.bipush 63, 2) := by decide +kernel
theorem dX2_aheadOf_39 : decode cX2_aheadOf 39 = .ok (.iand, 1) := by decide +kernel
theorem dX2_aheadOf_40 : decode cX2_aheadOf 40 = .ok (.iaload, 1) := by decide +kernel
theorem dX2_aheadOf_41 : decode cX2_aheadOf 41 = .ok (.istore 6, 2) := by decide +kernel
theorem dX2_aheadOf_43 : decode cX2_aheadOf 43 = .ok (.iload 5, 2) := by decide +kernel
theorem dX2_aheadOf_45 : decode cX2_aheadOf 45 = .ok (.iconst 3, 1) := by decide +kernel
theorem dX2_aheadOf_46 : decode cX2_aheadOf 46 = .ok (.if_icmp .ne 25, 3) := by decide +kernel
theorem dX2_aheadOf_49 : decode cX2_aheadOf 49 = .ok (.iload 4, 2) := by decide +kernel
theorem dX2_aheadOf_51 : decode cX2_aheadOf 51 = .ok (.aload_n 0, 1) := by decide +kernel
theorem dX2_aheadOf_52 : decode cX2_aheadOf 52 = .ok (.getfield 29, 3) := by decide +kernel
theorem dX2_aheadOf_55 : decode cX2_aheadOf 55 = .ok (.iload 6, 2) := by decide +kernel
theorem dX2_aheadOf_57 : decode cX2_aheadOf 57 = .ok (.iconst 1, 1) := by decide +kernel
theorem dX2_aheadOf_58 : decode cX2_aheadOf 58 = .ok (.iand, 1) := by decide +kernel
theorem dX2_aheadOf_59 : decode cX2_aheadOf 59 = .ok (.iaload, 1) := by decide +kernel
theorem dX2_aheadOf_60 : decode cX2_aheadOf 60 = .ok (.aload_n 0, 1) := by decide +kernel
theorem dX2_aheadOf_61 : decode cX2_aheadOf 61 = .ok (.invokevirtual 109, 3) := by decide +kernel
theorem dX2_aheadOf_64 : decode cX2_aheadOf 64 = .ok (.iand, 1) := by decide +kernel
theorem dX2_aheadOf_65 : decode cX2_aheadOf 65 = .ok (.ior, 1) := by decide +kernel
theorem dX2_aheadOf_66 : decode cX2_aheadOf 66 = .ok (.istore 4, 2) := by decide +kernel
theorem dX2_aheadOf_68 : decode cX2_aheadOf 68 = .ok (.goto 84, 3) := by decide +kernel
theorem dX2_aheadOf_71 : decode cX2_aheadOf 71 = .ok (.iload 5, 2) := by decide +kernel
theorem dX2_aheadOf_73 : decode cX2_aheadOf 73 = .ok (.ifCond .ne 29, 3) := by decide +kernel
theorem dX2_aheadOf_76 : decode cX2_aheadOf 76 = .ok (.aload_n 0, 1) := by decide +kernel
theorem dX2_aheadOf_77 : decode cX2_aheadOf 77 = .ok (.iload 6, 2) := by decide +kernel
theorem dX2_aheadOf_79 : decode cX2_aheadOf 79 = .ok (.invokevirtual 93, 3) := by decide +kernel
theorem dX2_aheadOf_82 : decode cX2_aheadOf 82 = .ok (.ifCond .eq 20, 3) := by decide +kernel
theorem dX2_aheadOf_85 : decode cX2_aheadOf 85 = .ok (.iload_n 3, 1) := by decide +kernel
theorem dX2_aheadOf_86 : decode cX2_aheadOf 86 = .ok (.bipush 8, 2) := by decide +kernel
theorem dX2_aheadOf_88 : decode cX2_aheadOf 88 = .ok (.if_icmp .ge 14, 3) := by decide +kernel
theorem dX2_aheadOf_91 : decode cX2_aheadOf 91 = .ok (.iload 4, 2) := by decide +kernel
theorem dX2_aheadOf_93 : decode cX2_aheadOf 93 = .ok (.iconst 1, 1) := by decide +kernel
theorem dX2_aheadOf_94 : decode cX2_aheadOf 94 = .ok (.iload_n 3, 1) := by decide +kernel
theorem dX2_aheadOf_95 : decode cX2_aheadOf 95 = .ok (.ishl, 1) := by decide +kernel
theorem dX2_aheadOf_96 : decode cX2_aheadOf 96 = .ok (.ior, 1) := by decide +kernel
theorem dX2_aheadOf_97 : decode cX2_aheadOf 97 = .ok (.istore 4, 2) := by decide +kernel
theorem dX2_aheadOf_99 : decode cX2_aheadOf 99 = .ok (.goto 53, 3) := by decide +kernel
theorem dX2_aheadOf_102 : decode cX2_aheadOf 102 = .ok (.iload 5, 2) := by decide +kernel
theorem dX2_aheadOf_104 : decode cX2_aheadOf 104 = .ok (.iconst 2, 1) := by decide +kernel
theorem dX2_aheadOf_105 : decode cX2_aheadOf 105 = .ok (.if_icmp .ne 47, 3) := by decide +kernel
theorem dX2_aheadOf_108 : decode cX2_aheadOf 108 = .ok (.aload_n 0, 1) := by decide +kernel
theorem dX2_aheadOf_109 : decode cX2_aheadOf 109 = .ok (.getfield 38, 3) := by decide +kernel
theorem dX2_aheadOf_112 : decode cX2_aheadOf 112 = .ok (.getfield 152, 3) := by decide +kernel
theorem dX2_aheadOf_115 : decode cX2_aheadOf 115 = .ok (.iconst (-1), 1) := by decide +kernel
theorem dX2_aheadOf_116 : decode cX2_aheadOf 116 = .ok (.if_icmp .eq 36, 3) := by decide +kernel
theorem dX2_aheadOf_119 : decode cX2_aheadOf 119 = .ok (.aload_n 0, 1) := by decide +kernel
theorem dX2_aheadOf_120 : decode cX2_aheadOf 120 = .ok (.aload_n 0, 1) := by decide +kernel
theorem dX2_aheadOf_121 : decode cX2_aheadOf 121 = .ok (.getfield 38, 3) := by decide +kernel
theorem dX2_aheadOf_124 : decode cX2_aheadOf 124 = .ok (.getfield 100, 3) := by decide +kernel
theorem dX2_aheadOf_127 : decode cX2_aheadOf 127 = .ok (.iload_n 2, 1) := by decide +kernel
theorem dX2_aheadOf_128 : decode cX2_aheadOf 128 = .ok (.bipush 63, 2) := by decide +kernel
theorem dX2_aheadOf_130 : decode cX2_aheadOf 130 = .ok (.iand, 1) := by decide +kernel
theorem dX2_aheadOf_131 : decode cX2_aheadOf 131 = .ok (.iaload, 1) := by decide +kernel
theorem dX2_aheadOf_132 : decode cX2_aheadOf 132 = .ok (.invokevirtual 158, 3) := by decide +kernel
theorem dX2_aheadOf_135 : decode cX2_aheadOf 135 = .ok (.ifCond .eq 17, 3) := by decide +kernel
theorem dX2_aheadOf_138 : decode cX2_aheadOf 138 = .ok (.iload 4, 2) := by decide +kernel
theorem dX2_aheadOf_140 : decode cX2_aheadOf 140 = .ok (.iconst 1, 1) := by decide +kernel
theorem dX2_aheadOf_141 : decode cX2_aheadOf 141 = .ok (.aload_n 0, 1) := by decide +kernel
theorem dX2_aheadOf_142 : decode cX2_aheadOf 142 = .ok (.getfield 38, 3) := by decide +kernel
theorem dX2_aheadOf_145 : decode cX2_aheadOf 145 = .ok (.getfield 152, 3) := by decide +kernel
theorem dX2_aheadOf_148 : decode cX2_aheadOf 148 = .ok (.ishl, 1) := by decide +kernel
theorem dX2_aheadOf_149 : decode cX2_aheadOf 149 = .ok (.ior, 1) := by decide +kernel
theorem dX2_aheadOf_150 : decode cX2_aheadOf 150 = .ok (.istore 4, 2) := by decide +kernel
theorem dX2_aheadOf_152 : decode cX2_aheadOf 152 = .ok (.iload 4, 2) := by decide +kernel
theorem dX2_aheadOf_154 : decode cX2_aheadOf 154 = .ok (.istore 7, 2) := by decide +kernel
theorem dX2_aheadOf_156 : decode cX2_aheadOf 156 = .ok (.iconst 0, 1) := by decide +kernel
theorem dX2_aheadOf_157 : decode cX2_aheadOf 157 = .ok (.istore 8, 2) := by decide +kernel
theorem dX2_aheadOf_159 : decode cX2_aheadOf 159 = .ok (.iload 8, 2) := by decide +kernel
theorem dX2_aheadOf_161 : decode cX2_aheadOf 161 = .ok (.bipush 8, 2) := by decide +kernel
theorem dX2_aheadOf_163 : decode cX2_aheadOf 163 = .ok (.if_icmp .ge 30, 3) := by decide +kernel
theorem dX2_aheadOf_166 : decode cX2_aheadOf 166 = .ok (.iload 4, 2) := by decide +kernel
theorem dX2_aheadOf_168 : decode cX2_aheadOf 168 = .ok (.iload 8, 2) := by decide +kernel
theorem dX2_aheadOf_170 : decode cX2_aheadOf 170 = .ok (.ishr, 1) := by decide +kernel
theorem dX2_aheadOf_171 : decode cX2_aheadOf 171 = .ok (.iconst 1, 1) := by decide +kernel
theorem dX2_aheadOf_172 : decode cX2_aheadOf 172 = .ok (.iand, 1) := by decide +kernel
theorem dX2_aheadOf_173 : decode cX2_aheadOf 173 = .ok (.ifCond .eq 14, 3) := by decide +kernel
theorem dX2_aheadOf_176 : decode cX2_aheadOf 176 = .ok (.iload 7, 2) := by decide +kernel
theorem dX2_aheadOf_178 : decode cX2_aheadOf 178 = .ok (.aload_n 0, 1) := by decide +kernel
theorem dX2_aheadOf_179 : decode cX2_aheadOf 179 = .ok (.iload 8, 2) := by decide +kernel
theorem dX2_aheadOf_181 : decode cX2_aheadOf 181 = .ok (.invokevirtual 117, 3) := by decide +kernel
theorem dX2_aheadOf_184 : decode cX2_aheadOf 184 = .ok (.ior, 1) := by decide +kernel
theorem dX2_aheadOf_185 : decode cX2_aheadOf 185 = .ok (.istore 7, 2) := by decide +kernel
theorem dX2_aheadOf_187 : decode cX2_aheadOf 187 = .ok (.iinc 8 1, 3) := by decide +kernel
theorem dX2_aheadOf_190 : decode cX2_aheadOf 190 = .ok (.goto (-31), 3) := by decide +kernel
theorem dX2_aheadOf_193 : decode cX2_aheadOf 193 = .ok (.iload 7, 2) := by decide +kernel
theorem dX2_aheadOf_195 : decode cX2_aheadOf 195 = .ok (.ireturn, 1) := by decide +kernel
theorem dX2_isPublished_0 : decode cX2_isPublished 0 = .ok (.aload_n 0, 1) := by decide +kernel
theorem dX2_isPublished_1 : decode cX2_isPublished 1 = .ok (.getfield 21, 3) := by decide +kernel
theorem dX2_isPublished_4 : decode cX2_isPublished 4 = .ok (.iconst 2, 1) := by decide +kernel
theorem dX2_isPublished_5 : decode cX2_isPublished 5 = .ok (.if_icmp .ne 57, 3) := by decide +kernel
theorem dX2_isPublished_8 : decode cX2_isPublished 8 = .ok (.iload_n 1, 1) := by decide +kernel
theorem dX2_isPublished_9 : decode cX2_isPublished 9 = .ok (.bipush 8, 2) := by decide +kernel
theorem dX2_isPublished_11 : decode cX2_isPublished 11 = .ok (.if_icmp .ge 51, 3) := by decide +kernel
theorem dX2_isPublished_14 : decode cX2_isPublished 14 = .ok (.aload_n 0, 1) := by decide +kernel
theorem dX2_isPublished_15 : decode cX2_isPublished 15 = .ok (.getfield 38, 3) := by decide +kernel
theorem dX2_isPublished_18 : decode cX2_isPublished 18 = .ok (.getfield 152, 3) := by decide +kernel
theorem dX2_isPublished_21 : decode cX2_isPublished 21 = .ok (.iconst (-1), 1) := by decide +kernel
theorem dX2_isPublished_22 : decode cX2_isPublished 22 = .ok (.if_icmp .eq 40, 3) := by decide +kernel
theorem dX2_isPublished_25 : decode cX2_isPublished 25 = .ok (.iload_n 1, 1) := by decide +kernel
theorem dX2_isPublished_26 : decode cX2_isPublished 26 = .ok (.aload_n 0, 1) := by decide +kernel
theorem dX2_isPublished_27 : decode cX2_isPublished 27 = .ok (.getfield 38, 3) := by decide +kernel
theorem dX2_isPublished_30 : decode cX2_isPublished 30 = .ok (.getfield 152, 3) := by decide +kernel
theorem dX2_isPublished_33 : decode cX2_isPublished 33 = .ok (.if_icmp .le 29, 3) := by decide +kernel
theorem dX2_isPublished_36 : decode cX2_isPublished 36 = .ok (.aload_n 0, 1) := by decide +kernel
theorem dX2_isPublished_37 : decode cX2_isPublished 37 = .ok (.getfield 38, 3) := by decide +kernel
theorem dX2_isPublished_40 : decode cX2_isPublished 40 = .ok (.getfield 58, 3) := by decide +kernel
theorem dX2_isPublished_43 : decode cX2_isPublished 43 = .ok (.iload_n 1, 1) := by decide +kernel
theorem dX2_isPublished_44 : decode cX2_isPublished 44 = .ok (.bipush 7, 2) := by decide +kernel
theorem dX2_isPublished_46 : decode cX2_isPublished 46 = .ok (.iand, 1) := by decide +kernel
theorem dX2_isPublished_47 : decode cX2_isPublished 47 = .ok (.iaload, 1) := by decide +kernel
theorem dX2_isPublished_48 : decode cX2_isPublished 48 = .ok (.aload_n 0, 1) := by decide +kernel
theorem dX2_isPublished_49 : decode cX2_isPublished 49 = .ok (.getfield 38, 3) := by decide +kernel
theorem dX2_isPublished_52 : decode cX2_isPublished 52 = .ok (.getfield 155, 3) := by decide +kernel
theorem dX2_isPublished_55 : decode cX2_isPublished 55 = .ok (.if_icmp .ne 7, 3) := by decide +kernel
theorem dX2_isPublished_58 : decode cX2_isPublished 58 = .ok (.iconst 1, 1) := by decide +kernel
theorem dX2_isPublished_59 : decode cX2_isPublished 59 = .ok (.goto 4, 3) := by decide +kernel
theorem dX2_isPublished_62 : decode cX2_isPublished 62 = .ok (.iconst 0, 1) := by decide +kernel
theorem dX2_isPublished_63 : decode cX2_isPublished 63 = .ok (.ireturn, 1) := by decide +kernel
theorem dX2_nextOf_0 : decode cX2_nextOf 0 = .ok (.aload_n 0, 1) := by decide +kernel
theorem dX2_nextOf_1 : decode cX2_nextOf 1 = .ok (.getfield 9, 3) := by decide +kernel
theorem dX2_nextOf_4 : decode cX2_nextOf 4 = .ok (.iconst 4, 1) := by decide +kernel
theorem dX2_nextOf_5 : decode cX2_nextOf 5 = .ok (.iload_n 1, 1) := by decide +kernel
theorem dX2_nextOf_6 : decode cX2_nextOf 6 = .ok (.imul, 1) := by decide +kernel
theorem dX2_nextOf_7 : decode cX2_nextOf 7 = .ok (.lushr, 1) := by decide +kernel
theorem dX2_nextOf_8 : decode cX2_nextOf 8 = .ok (.l2i, 1) := by decide +kernel
theorem dX2_nextOf_9 : decode cX2_nextOf 9 = .ok (.bipush 15, 2) := by decide +kernel
theorem dX2_nextOf_11 : decode cX2_nextOf 11 = .ok (.iand, 1) := by decide +kernel
theorem dX2_nextOf_12 : decode cX2_nextOf 12 = .ok (.ireturn, 1) := by decide +kernel
theorem dX2_inCell_0 : decode cX2_inCell 0 = .ok (.aload_n 0, 1) := by decide +kernel
theorem dX2_inCell_1 : decode cX2_inCell 1 = .ok (.getfield 15, 3) := by decide +kernel
theorem dX2_inCell_4 : decode cX2_inCell 4 = .ok (.iconst 4, 1) := by decide +kernel
theorem dX2_inCell_5 : decode cX2_inCell 5 = .ok (.iload_n 1, 1) := by decide +kernel
theorem dX2_inCell_6 : decode cX2_inCell 6 = .ok (.imul, 1) := by decide +kernel
theorem dX2_inCell_7 : decode cX2_inCell 7 = .ok (.lushr, 1) := by decide +kernel
theorem dX2_inCell_8 : decode cX2_inCell 8 = .ok (.l2i, 1) := by decide +kernel
theorem dX2_inCell_9 : decode cX2_inCell 9 = .ok (.bipush 15, 2) := by decide +kernel
theorem dX2_inCell_11 : decode cX2_inCell 11 = .ok (.iand, 1) := by decide +kernel
theorem dX2_inCell_12 : decode cX2_inCell 12 = .ok (.ireturn, 1) := by decide +kernel
theorem dX2_queueOf_0 : decode cX2_queueOf 0 = .ok (.aload_n 0, 1) := by decide +kernel
theorem dX2_queueOf_1 : decode cX2_queueOf 1 = .ok (.getfield 9, 3) := by decide +kernel
theorem dX2_queueOf_4 : decode cX2_queueOf 4 = .ok (.bipush 55, 2) := by decide +kernel
theorem dX2_queueOf_6 : decode cX2_queueOf 6 = .ok (.lushr, 1) := by decide +kernel
theorem dX2_queueOf_7 : decode cX2_queueOf 7 = .ok (.l2i, 1) := by decide +kernel
theorem dX2_queueOf_8 : decode cX2_queueOf 8 = .ok (.aload_n 0, 1) := by decide +kernel
theorem dX2_queueOf_9 : decode cX2_queueOf 9 = .ok (.getfield 32, 3) := by decide +kernel
theorem dX2_queueOf_12 : decode cX2_queueOf 12 = .ok (.iload_n 1, 1) := by decide +kernel
theorem dX2_queueOf_13 : decode cX2_queueOf 13 = .ok (.iconst 3, 1) := by decide +kernel
theorem dX2_queueOf_14 : decode cX2_queueOf 14 = .ok (.iand, 1) := by decide +kernel
theorem dX2_queueOf_15 : decode cX2_queueOf 15 = .ok (.iaload, 1) := by decide +kernel
theorem dX2_queueOf_16 : decode cX2_queueOf 16 = .ok (.iand, 1) := by decide +kernel
theorem dX2_queueOf_17 : decode cX2_queueOf 17 = .ok (.ireturn, 1) := by decide +kernel
theorem dX2_writtenBy_0 : decode cX2_writtenBy 0 = .ok (.iload_n 1, 1) := by decide +kernel
theorem dX2_writtenBy_1 : decode cX2_writtenBy 1 = .ok (.bipush 8, 2) := by decide +kernel
theorem dX2_writtenBy_3 : decode cX2_writtenBy 3 = .ok (.if_icmp .ge 21, 3) := by decide +kernel
theorem dX2_writtenBy_6 : decode cX2_writtenBy 6 = .ok (.aload_n 0, 1) := by decide +kernel
theorem dX2_writtenBy_7 : decode cX2_writtenBy 7 = .ok (.getfield 15, 3) := by decide +kernel
theorem dX2_writtenBy_10 : decode cX2_writtenBy 10 = .ok (.bipush 24, 2) := by decide +kernel
theorem dX2_writtenBy_12 : decode cX2_writtenBy 12 = .ok (.iconst 4, 1) := by decide +kernel
theorem dX2_writtenBy_13 : decode cX2_writtenBy 13 = .ok (.iload_n 1, 1) := by decide +kernel
theorem dX2_writtenBy_14 : decode cX2_writtenBy 14 = .ok (.imul, 1) := by decide +kernel
theorem dX2_writtenBy_15 : decode cX2_writtenBy 15 = .ok (.iadd, 1) := by decide +kernel
theorem dX2_writtenBy_16 : decode cX2_writtenBy 16 = .ok (.lushr, 1) := by decide +kernel
theorem dX2_writtenBy_17 : decode cX2_writtenBy 17 = .ok (.l2i, 1) := by decide +kernel
theorem dX2_writtenBy_18 : decode cX2_writtenBy 18 = .ok (.bipush 15, 2) := by decide +kernel
theorem dX2_writtenBy_20 : decode cX2_writtenBy 20 = .ok (.iand, 1) := by decide +kernel
theorem dX2_writtenBy_21 : decode cX2_writtenBy 21 = .ok (.goto 4, 3) := by decide +kernel
theorem dX2_writtenBy_24 : decode cX2_writtenBy 24 = .ok (.iconst 0, 1) := by decide +kernel
theorem dX2_writtenBy_25 : decode cX2_writtenBy 25 = .ok (.ireturn, 1) := by decide +kernel
theorem dX2_seenValue_0 : decode cX2_seenValue 0 = .ok (.aload_n 0, 1) := by decide +kernel
theorem dX2_seenValue_1 : decode cX2_seenValue 1 = .ok (.getfield 21, 3) := by decide +kernel
theorem dX2_seenValue_4 : decode cX2_seenValue 4 = .ok (.iconst 2, 1) := by decide +kernel
theorem dX2_seenValue_5 : decode cX2_seenValue 5 = .ok (.if_icmp .lt 9, 3) := by decide +kernel
theorem dX2_seenValue_8 : decode cX2_seenValue 8 = .ok (.aload_n 0, 1) := by decide +kernel
theorem dX2_seenValue_9 : decode cX2_seenValue 9 = .ok (.iload_n 3, 1) := by decide +kernel
theorem dX2_seenValue_10 : decode cX2_seenValue 10 = .ok (.invokevirtual 120, 3) := by decide +kernel
theorem dX2_seenValue_13 : decode cX2_seenValue 13 = .ok (.ireturn, 1) := by decide +kernel
theorem dX2_seenValue_14 : decode cX2_seenValue 14 = .ok (.aload_n 0, 1) := by decide +kernel
theorem dX2_seenValue_15 : decode cX2_seenValue 15 = .ok (.iload_n 1, 1) := by decide +kernel
theorem dX2_seenValue_16 : decode cX2_seenValue 16 = .ok (.invokevirtual 81, 3) := by decide +kernel
theorem dX2_seenValue_19 : decode cX2_seenValue 19 = .ok (.aload_n 0, 1) := by decide +kernel
theorem dX2_seenValue_20 : decode cX2_seenValue 20 = .ok (.getfield 25, 3) := by decide +kernel
theorem dX2_seenValue_23 : decode cX2_seenValue 23 = .ok (.iload_n 2, 1) := by decide +kernel
theorem dX2_seenValue_24 : decode cX2_seenValue 24 = .ok (.bipush 7, 2) := by decide +kernel
theorem dX2_seenValue_26 : decode cX2_seenValue 26 = .ok (.iand, 1) := by decide +kernel
theorem dX2_seenValue_27 : decode cX2_seenValue 27 = .ok (.iaload, 1) := by decide +kernel
theorem dX2_seenValue_28 : decode cX2_seenValue 28 = .ok (.iand, 1) := by decide +kernel
theorem dX2_seenValue_29 : decode cX2_seenValue 29 = .ok (.istore 4, 2) := by decide +kernel
theorem dX2_seenValue_31 : decode cX2_seenValue 31 = .ok (.bipush 7, 2) := by decide +kernel
theorem dX2_seenValue_33 : decode cX2_seenValue 33 = .ok (.istore 5, 2) := by decide +kernel
theorem dX2_seenValue_35 : decode cX2_seenValue 35 = .ok (.iload 5, 2) := by decide +kernel
theorem dX2_seenValue_37 : decode cX2_seenValue 37 = .ok (.ifCond .lt 26, 3) := by decide +kernel
theorem dX2_seenValue_40 : decode cX2_seenValue 40 = .ok (.iload 4, 2) := by decide +kernel
theorem dX2_seenValue_42 : decode cX2_seenValue 42 = .ok (.iload 5, 2) := by decide +kernel
theorem dX2_seenValue_44 : decode cX2_seenValue 44 = .ok (.ishr, 1) := by decide +kernel
theorem dX2_seenValue_45 : decode cX2_seenValue 45 = .ok (.iconst 1, 1) := by decide +kernel
theorem dX2_seenValue_46 : decode cX2_seenValue 46 = .ok (.iand, 1) := by decide +kernel
theorem dX2_seenValue_47 : decode cX2_seenValue 47 = .ok (.ifCond .eq 10, 3) := by decide +kernel
theorem dX2_seenValue_50 : decode cX2_seenValue 50 = .ok (.aload_n 0, 1) := by decide +kernel
theorem dX2_seenValue_51 : decode cX2_seenValue 51 = .ok (.iload 5, 2) := by decide +kernel
theorem dX2_seenValue_53 : decode cX2_seenValue 53 = .ok (.invokevirtual 120, 3) := by decide +kernel
theorem dX2_seenValue_56 : decode cX2_seenValue 56 = .ok (.ireturn, 1) := by decide +kernel
theorem dX2_seenValue_57 : decode cX2_seenValue 57 = .ok (.iinc 5 (-1), 3) := by decide +kernel
theorem dX2_seenValue_60 : decode cX2_seenValue 60 = .ok (.goto (-25), 3) := by decide +kernel
theorem dX2_seenValue_63 : decode cX2_seenValue 63 = .ok (.aload_n 0, 1) := by decide +kernel
theorem dX2_seenValue_64 : decode cX2_seenValue 64 = .ok (.iload_n 2, 1) := by decide +kernel
theorem dX2_seenValue_65 : decode cX2_seenValue 65 = .ok (.invokevirtual 106, 3) := by decide +kernel
theorem dX2_seenValue_68 : decode cX2_seenValue 68 = .ok (.ireturn, 1) := by decide +kernel
theorem dX2_putInCell_0 : decode cX2_putInCell 0 = .ok (.aload_n 0, 1) := by decide +kernel
theorem dX2_putInCell_1 : decode cX2_putInCell 1 = .ok (.aload_n 0, 1) := by decide +kernel
theorem dX2_putInCell_2 : decode cX2_putInCell 2 = .ok (.getfield 15, 3) := by decide +kernel
theorem dX2_putInCell_5 : decode cX2_putInCell 5 = .ok (.ldc2_w 128, 3) := by decide +kernel
theorem dX2_putInCell_8 : decode cX2_putInCell 8 = .ok (.iconst 4, 1) := by decide +kernel
theorem dX2_putInCell_9 : decode cX2_putInCell 9 = .ok (.iload_n 1, 1) := by decide +kernel
theorem dX2_putInCell_10 : decode cX2_putInCell 10 = .ok (.imul, 1) := by decide +kernel
theorem dX2_putInCell_11 : decode cX2_putInCell 11 = .ok (.lshl, 1) := by decide +kernel
theorem dX2_putInCell_12 : decode cX2_putInCell 12 = .ok (.ldc2_w 126, 3) := by decide +kernel
theorem dX2_putInCell_15 : decode cX2_putInCell 15 = .ok (.lxor, 1) := by decide +kernel
theorem dX2_putInCell_16 : decode cX2_putInCell 16 = .ok (.land, 1) := by decide +kernel
theorem dX2_putInCell_17 : decode cX2_putInCell 17 = .ok (.iload_n 2, 1) := by decide +kernel
theorem dX2_putInCell_18 : decode cX2_putInCell 18 = .ok (.i2l, 1) := by decide +kernel
theorem dX2_putInCell_19 : decode cX2_putInCell 19 = .ok (.iconst 4, 1) := by decide +kernel
theorem dX2_putInCell_20 : decode cX2_putInCell 20 = .ok (.iload_n 1, 1) := by decide +kernel
theorem dX2_putInCell_21 : decode cX2_putInCell 21 = .ok (.imul, 1) := by decide +kernel
theorem dX2_putInCell_22 : decode cX2_putInCell 22 = .ok (.lshl, 1) := by decide +kernel
theorem dX2_putInCell_23 : decode cX2_putInCell 23 = .ok (.lor, 1) := by decide +kernel
theorem dX2_putInCell_24 : decode cX2_putInCell 24 = .ok (.putfield 15, 3) := by decide +kernel
theorem dX2_putInCell_27 : decode cX2_putInCell 27 = .ok (.return_, 1) := by decide +kernel
theorem dX2_write_0 : decode cX2_write 0 = .ok (.aload_n 0, 1) := by decide +kernel
theorem dX2_write_1 : decode cX2_write 1 = .ok (.getfield 21, 3) := by decide +kernel
theorem dX2_write_4 : decode cX2_write 4 = .ok (.ifCond .ne 10, 3) := by decide +kernel
theorem dX2_write_7 : decode cX2_write 7 = .ok (.aload_n 0, 1) := by decide +kernel
theorem dX2_write_8 : decode cX2_write 8 = .ok (.iload_n 2, 1) := by decide +kernel
theorem dX2_write_9 : decode cX2_write 9 = .ok (.iload_n 3, 1) := by decide +kernel
theorem dX2_write_10 : decode cX2_write 10 = .ok (.invokevirtual 123, 3) := by decide +kernel
theorem dX2_write_13 : decode cX2_write 13 = .ok (.return_, 1) := by decide +kernel
theorem dX2_write_14 : decode cX2_write 14 = .ok (.aload_n 0, 1) := by decide +kernel
theorem dX2_write_15 : decode cX2_write 15 = .ok (.dup, 1) := by decide +kernel
theorem dX2_write_16 : decode cX2_write 16 = .ok (.getfield 15, 3) := by decide +kernel
theorem dX2_write_19 : decode cX2_write 19 = .ok (.iload_n 3, 1) := by decide +kernel
theorem dX2_write_20 : decode cX2_write 20 = .ok (.i2l, 1) := by decide +kernel
theorem dX2_write_21 : decode cX2_write 21 = .ok (.bipush 24, 2) := by decide +kernel
theorem dX2_write_23 : decode cX2_write 23 = .ok (.iconst 4, 1) := by decide +kernel
theorem dX2_write_24 : decode cX2_write 24 = .ok (.iload_n 1, 1) := by decide +kernel
theorem dX2_write_25 : decode cX2_write 25 = .ok (.imul, 1) := by decide +kernel
theorem dX2_write_26 : decode cX2_write 26 = .ok (.iadd, 1) := by decide +kernel
theorem dX2_write_27 : decode cX2_write 27 = .ok (.lshl, 1) := by decide +kernel
theorem dX2_write_28 : decode cX2_write 28 = .ok (.lor, 1) := by decide +kernel
theorem dX2_write_29 : decode cX2_write 29 = .ok (.putfield 15, 3) := by decide +kernel
theorem dX2_write_32 : decode cX2_write 32 = .ok (.aload_n 0, 1) := by decide +kernel
theorem dX2_write_33 : decode cX2_write 33 = .ok (.getfield 21, 3) := by decide +kernel
theorem dX2_write_36 : decode cX2_write 36 = .ok (.iconst 1, 1) := by decide +kernel
theorem dX2_write_37 : decode cX2_write 37 = .ok (.if_icmp .ne 21, 3) := by decide +kernel
theorem dX2_write_40 : decode cX2_write 40 = .ok (.aload_n 0, 1) := by decide +kernel
theorem dX2_write_41 : decode cX2_write 41 = .ok (.dup, 1) := by decide +kernel
theorem dX2_write_42 : decode cX2_write 42 = .ok (.getfield 9, 3) := by decide +kernel
theorem dX2_write_45 : decode cX2_write 45 = .ok (.lconst 1, 1) := by decide +kernel
theorem dX2_write_46 : decode cX2_write 46 = .ok (.bipush 55, 2) := by decide +kernel
theorem dX2_write_48 : decode cX2_write 48 = .ok (.iload_n 1, 1) := by decide +kernel
theorem dX2_write_49 : decode cX2_write 49 = .ok (.iadd, 1) := by decide +kernel
theorem dX2_write_50 : decode cX2_write 50 = .ok (.lshl, 1) := by decide +kernel
theorem dX2_write_51 : decode cX2_write 51 = .ok (.lor, 1) := by decide +kernel
theorem dX2_write_52 : decode cX2_write 52 = .ok (.putfield 9, 3) := by decide +kernel
theorem dX2_write_55 : decode cX2_write 55 = .ok (.goto 27, 3) := by decide +kernel
theorem dX2_write_58 : decode cX2_write 58 = .ok (.aload_n 0, 1) := by decide +kernel
theorem dX2_write_59 : decode cX2_write 59 = .ok (.getfield 21, 3) := by decide +kernel
theorem dX2_write_62 : decode cX2_write 62 = .ok (.iconst 3, 1) := by decide +kernel
theorem dX2_write_63 : decode cX2_write 63 = .ok (.if_icmp .eq 11, 3) := by decide +kernel
theorem dX2_write_66 : decode cX2_write 66 = .ok (.aload_n 0, 1) := by decide +kernel
theorem dX2_write_67 : decode cX2_write 67 = .ok (.iload_n 2, 1) := by decide +kernel
theorem dX2_write_68 : decode cX2_write 68 = .ok (.invokevirtual 93, 3) := by decide +kernel
theorem dX2_write_71 : decode cX2_write 71 = .ok (.ifCond .eq 11, 3) := by decide +kernel
theorem dX2_write_74 : decode cX2_write 74 = .ok (.aload_n 0, 1) := by decide +kernel
theorem dX2_write_75 : decode cX2_write 75 = .ok (.iload_n 2, 1) := by decide +kernel
theorem dX2_write_76 : decode cX2_write 76 = .ok (.iload_n 1, 1) := by decide +kernel
theorem dX2_write_77 : decode cX2_write 77 = .ok (.iconst 1, 1) := by decide +kernel
theorem dX2_write_78 : decode cX2_write 78 = .ok (.iadd, 1) := by decide +kernel
theorem dX2_write_79 : decode cX2_write 79 = .ok (.invokevirtual 123, 3) := by decide +kernel
theorem dX2_write_82 : decode cX2_write 82 = .ok (.return_, 1) := by decide +kernel
theorem dX2_act_0 : decode cX2_act 0 = .ok (.aload_n 0, 1) := by decide +kernel
theorem dX2_act_1 : decode cX2_act 1 = .ok (.iload_n 1, 1) := by decide +kernel
theorem dX2_act_2 : decode cX2_act 2 = .ok (.invokevirtual 78, 3) := by decide +kernel
theorem dX2_act_5 : decode cX2_act 5 = .ok (.bipush 7, 2) := by decide +kernel
theorem dX2_act_7 : decode cX2_act 7 = .ok (.iand, 1) := by decide +kernel
theorem dX2_act_8 : decode cX2_act 8 = .ok (.istore_n 3, 1) := by decide +kernel
theorem dX2_act_9 : decode cX2_act 9 = .ok (.aload_n 0, 1) := by decide +kernel
theorem dX2_act_10 : decode cX2_act 10 = .ok (.getfield 38, 3) := by decide +kernel
theorem dX2_act_13 : decode cX2_act 13 = .ok (.getfield 84, 3) := by decide +kernel
theorem dX2_act_16 : decode cX2_act 16 = .ok (.iload_n 3, 1) := by decide +kernel
theorem dX2_act_17 : decode cX2_act 17 = .ok (.iaload, 1) := by decide +kernel
theorem dX2_act_18 : decode cX2_act 18 = .ok (.bipush 63, 2) := by decide +kernel
theorem dX2_act_20 : decode cX2_act 20 = .ok (.iand, 1) := by decide +kernel
theorem dX2_act_21 : decode cX2_act 21 = .ok (.istore 4, 2) := by decide +kernel
theorem dX2_act_23 : decode cX2_act 23 = .ok (.aload_n 0, 1) := by decide +kernel
theorem dX2_act_24 : decode cX2_act 24 = .ok (.getfield 21, 3) := by decide +kernel
theorem dX2_act_27 : decode cX2_act 27 = .ok (.iconst 2, 1) := by decide +kernel
theorem dX2_act_28 : decode cX2_act 28 = .ok (.if_icmp .lt 26, 3) := by decide +kernel
theorem dX2_act_31 : decode cX2_act 31 = .ok (.aload_n 0, 1) := by decide +kernel
theorem dX2_act_32 : decode cX2_act 32 = .ok (.dup, 1) := by decide +kernel
theorem dX2_act_33 : decode cX2_act 33 = .ok (.getfield 18, 3) := by decide +kernel
theorem dX2_act_36 : decode cX2_act 36 = .ok (.aload_n 0, 1) := by decide +kernel
theorem dX2_act_37 : decode cX2_act 37 = .ok (.iload_n 1, 1) := by decide +kernel
theorem dX2_act_38 : decode cX2_act 38 = .ok (.iload 4, 2) := by decide +kernel
theorem dX2_act_40 : decode cX2_act 40 = .ok (.iload_n 2, 1) := by decide +kernel
theorem dX2_act_41 : decode cX2_act 41 = .ok (.invokevirtual 113, 3) := by decide +kernel
theorem dX2_act_44 : decode cX2_act 44 = .ok (.i2l, 1) := by decide +kernel
theorem dX2_act_45 : decode cX2_act 45 = .ok (.bipush 8, 2) := by decide +kernel
theorem dX2_act_47 : decode cX2_act 47 = .ok (.iload_n 3, 1) := by decide +kernel
theorem dX2_act_48 : decode cX2_act 48 = .ok (.imul, 1) := by decide +kernel
theorem dX2_act_49 : decode cX2_act 49 = .ok (.lshl, 1) := by decide +kernel
theorem dX2_act_50 : decode cX2_act 50 = .ok (.lor, 1) := by decide +kernel
theorem dX2_act_51 : decode cX2_act 51 = .ok (.putfield 18, 3) := by decide +kernel
theorem dX2_act_54 : decode cX2_act 54 = .ok (.aload_n 0, 1) := by decide +kernel
theorem dX2_act_55 : decode cX2_act 55 = .ok (.getfield 38, 3) := by decide +kernel
theorem dX2_act_58 : decode cX2_act 58 = .ok (.getfield 87, 3) := by decide +kernel
theorem dX2_act_61 : decode cX2_act 61 = .ok (.iload 4, 2) := by decide +kernel
theorem dX2_act_63 : decode cX2_act 63 = .ok (.iaload, 1) := by decide +kernel
theorem dX2_act_64 : decode cX2_act 64 = .ok (.tableswitch 199 0 4 #[36, 108, 74, 132, 164], 36) := by decide +kernel
theorem dX2_act_100 : decode cX2_act 100 = .ok (.aload_n 0, 1) := by decide +kernel
theorem dX2_act_101 : decode cX2_act 101 = .ok (.aload_n 0, 1) := by decide +kernel
theorem dX2_act_102 : decode cX2_act 102 = .ok (.getfield 38, 3) := by decide +kernel
theorem dX2_act_105 : decode cX2_act 105 = .ok (.getfield 130, 3) := by decide +kernel
theorem dX2_act_108 : decode cX2_act 108 = .ok (.iload 4, 2) := by decide +kernel
theorem dX2_act_110 : decode cX2_act 110 = .ok (.iaload, 1) := by decide +kernel
theorem dX2_act_111 : decode cX2_act 111 = .ok (.aload_n 0, 1) := by decide +kernel
theorem dX2_act_112 : decode cX2_act 112 = .ok (.iload_n 1, 1) := by decide +kernel
theorem dX2_act_113 : decode cX2_act 113 = .ok (.aload_n 0, 1) := by decide +kernel
theorem dX2_act_114 : decode cX2_act 114 = .ok (.getfield 38, 3) := by decide +kernel
theorem dX2_act_117 : decode cX2_act 117 = .ok (.getfield 90, 3) := by decide +kernel
theorem dX2_act_120 : decode cX2_act 120 = .ok (.iload 4, 2) := by decide +kernel
theorem dX2_act_122 : decode cX2_act 122 = .ok (.iaload, 1) := by decide +kernel
theorem dX2_act_123 : decode cX2_act 123 = .ok (.iload_n 2, 1) := by decide +kernel
theorem dX2_act_124 : decode cX2_act 124 = .ok (.invokevirtual 133, 3) := by decide +kernel
theorem dX2_act_127 : decode cX2_act 127 = .ok (.aload_n 0, 1) := by decide +kernel
theorem dX2_act_128 : decode cX2_act 128 = .ok (.iload_n 2, 1) := by decide +kernel
theorem dX2_act_129 : decode cX2_act 129 = .ok (.invokevirtual 136, 3) := by decide +kernel
theorem dX2_act_132 : decode cX2_act 132 = .ok (.invokevirtual 139, 3) := by decide +kernel
theorem dX2_act_135 : decode cX2_act 135 = .ok (.goto 128, 3) := by decide +kernel
theorem dX2_act_138 : decode cX2_act 138 = .ok (.aload_n 0, 1) := by decide +kernel
theorem dX2_act_139 : decode cX2_act 139 = .ok (.aload_n 0, 1) := by decide +kernel
theorem dX2_act_140 : decode cX2_act 140 = .ok (.getfield 38, 3) := by decide +kernel
theorem dX2_act_143 : decode cX2_act 143 = .ok (.getfield 130, 3) := by decide +kernel
theorem dX2_act_146 : decode cX2_act 146 = .ok (.iload 4, 2) := by decide +kernel
theorem dX2_act_148 : decode cX2_act 148 = .ok (.iaload, 1) := by decide +kernel
theorem dX2_act_149 : decode cX2_act 149 = .ok (.aload_n 0, 1) := by decide +kernel
theorem dX2_act_150 : decode cX2_act 150 = .ok (.iload_n 1, 1) := by decide +kernel
theorem dX2_act_151 : decode cX2_act 151 = .ok (.aload_n 0, 1) := by decide +kernel
theorem dX2_act_152 : decode cX2_act 152 = .ok (.getfield 38, 3) := by decide +kernel
theorem dX2_act_155 : decode cX2_act 155 = .ok (.getfield 90, 3) := by decide +kernel
theorem dX2_act_158 : decode cX2_act 158 = .ok (.iload 4, 2) := by decide +kernel
theorem dX2_act_160 : decode cX2_act 160 = .ok (.iaload, 1) := by decide +kernel
theorem dX2_act_161 : decode cX2_act 161 = .ok (.iload_n 2, 1) := by decide +kernel
theorem dX2_act_162 : decode cX2_act 162 = .ok (.invokevirtual 133, 3) := by decide +kernel
theorem dX2_act_165 : decode cX2_act 165 = .ok (.iconst 0, 1) := by decide +kernel
theorem dX2_act_166 : decode cX2_act 166 = .ok (.invokevirtual 139, 3) := by decide +kernel
theorem dX2_act_169 : decode cX2_act 169 = .ok (.goto 94, 3) := by decide +kernel
theorem dX2_act_172 : decode cX2_act 172 = .ok (.aload_n 0, 1) := by decide +kernel
theorem dX2_act_173 : decode cX2_act 173 = .ok (.iload_n 3, 1) := by decide +kernel
theorem dX2_act_174 : decode cX2_act 174 = .ok (.aload_n 0, 1) := by decide +kernel
theorem dX2_act_175 : decode cX2_act 175 = .ok (.getfield 38, 3) := by decide +kernel
theorem dX2_act_178 : decode cX2_act 178 = .ok (.getfield 90, 3) := by decide +kernel
theorem dX2_act_181 : decode cX2_act 181 = .ok (.iload 4, 2) := by decide +kernel
theorem dX2_act_183 : decode cX2_act 183 = .ok (.iaload, 1) := by decide +kernel
theorem dX2_act_184 : decode cX2_act 184 = .ok (.aload_n 0, 1) := by decide +kernel
theorem dX2_act_185 : decode cX2_act 185 = .ok (.iload 4, 2) := by decide +kernel
theorem dX2_act_187 : decode cX2_act 187 = .ok (.invokevirtual 143, 3) := by decide +kernel
theorem dX2_act_190 : decode cX2_act 190 = .ok (.invokevirtual 146, 3) := by decide +kernel
theorem dX2_act_193 : decode cX2_act 193 = .ok (.goto 70, 3) := by decide +kernel
theorem dX2_act_196 : decode cX2_act 196 = .ok (.aload_n 0, 1) := by decide +kernel
theorem dX2_act_197 : decode cX2_act 197 = .ok (.dup, 1) := by decide +kernel
theorem dX2_act_198 : decode cX2_act 198 = .ok (.getfield 9, 3) := by decide +kernel
theorem dX2_act_201 : decode cX2_act 201 = .ok (.iload_n 1, 1) := by decide +kernel
theorem dX2_act_202 : decode cX2_act 202 = .ok (.i2l, 1) := by decide +kernel
theorem dX2_act_203 : decode cX2_act 203 = .ok (.lconst 1, 1) := by decide +kernel
theorem dX2_act_204 : decode cX2_act 204 = .ok (.ladd, 1) := by decide +kernel
theorem dX2_act_205 : decode cX2_act 205 = .ok (.bipush 36, 2) := by decide +kernel
theorem dX2_act_207 : decode cX2_act 207 = .ok (.iconst 3, 1) := by decide +kernel
theorem dX2_act_208 : decode cX2_act 208 = .ok (.aload_n 0, 1) := by decide +kernel
theorem dX2_act_209 : decode cX2_act 209 = .ok (.getfield 38, 3) := by decide +kernel
theorem dX2_act_212 : decode cX2_act 212 = .ok (.getfield 90, 3) := by decide +kernel
theorem dX2_act_215 : decode cX2_act 215 = .ok (.iload 4, 2) := by decide +kernel
theorem dX2_act_217 : decode cX2_act 217 = .ok (.iaload, 1) := by decide +kernel
theorem dX2_act_218 : decode cX2_act 218 = .ok (.imul, 1) := by decide +kernel
theorem dX2_act_219 : decode cX2_act 219 = .ok (.iadd, 1) := by decide +kernel
theorem dX2_act_220 : decode cX2_act 220 = .ok (.lshl, 1) := by decide +kernel
theorem dX2_act_221 : decode cX2_act 221 = .ok (.lor, 1) := by decide +kernel
theorem dX2_act_222 : decode cX2_act 222 = .ok (.putfield 9, 3) := by decide +kernel
theorem dX2_act_225 : decode cX2_act 225 = .ok (.goto 38, 3) := by decide +kernel
theorem dX2_act_228 : decode cX2_act 228 = .ok (.aload_n 0, 1) := by decide +kernel
theorem dX2_act_229 : decode cX2_act 229 = .ok (.dup, 1) := by decide +kernel
theorem dX2_act_230 : decode cX2_act 230 = .ok (.getfield 9, 3) := by decide +kernel
theorem dX2_act_233 : decode cX2_act 233 = .ok (.ldc2_w 150, 3) := by decide +kernel
theorem dX2_act_236 : decode cX2_act 236 = .ok (.bipush 36, 2) := by decide +kernel
theorem dX2_act_238 : decode cX2_act 238 = .ok (.iconst 3, 1) := by decide +kernel
theorem dX2_act_239 : decode cX2_act 239 = .ok (.aload_n 0, 1) := by decide +kernel
theorem dX2_act_240 : decode cX2_act 240 = .ok (.getfield 38, 3) := by decide +kernel
theorem dX2_act_243 : decode cX2_act 243 = .ok (.getfield 90, 3) := by decide +kernel
theorem dX2_act_246 : decode cX2_act 246 = .ok (.iload 4, 2) := by decide +kernel
theorem dX2_act_248 : decode cX2_act 248 = .ok (.iaload, 1) := by decide +kernel
theorem dX2_act_249 : decode cX2_act 249 = .ok (.imul, 1) := by decide +kernel
theorem dX2_act_250 : decode cX2_act 250 = .ok (.iadd, 1) := by decide +kernel
theorem dX2_act_251 : decode cX2_act 251 = .ok (.lshl, 1) := by decide +kernel
theorem dX2_act_252 : decode cX2_act 252 = .ok (.ldc2_w 126, 3) := by decide +kernel
theorem dX2_act_255 : decode cX2_act 255 = .ok (.lxor, 1) := by decide +kernel
theorem dX2_act_256 : decode cX2_act 256 = .ok (.land, 1) := by decide +kernel
theorem dX2_act_257 : decode cX2_act 257 = .ok (.putfield 9, 3) := by decide +kernel
theorem dX2_act_260 : decode cX2_act 260 = .ok (.goto 3, 3) := by decide +kernel
theorem dX2_act_263 : decode cX2_act 263 = .ok (.aload_n 0, 1) := by decide +kernel
theorem dX2_act_264 : decode cX2_act 264 = .ok (.dup, 1) := by decide +kernel
theorem dX2_act_265 : decode cX2_act 265 = .ok (.getfield 9, 3) := by decide +kernel
theorem dX2_act_268 : decode cX2_act 268 = .ok (.lconst 1, 1) := by decide +kernel
theorem dX2_act_269 : decode cX2_act 269 = .ok (.bipush 47, 2) := by decide +kernel
theorem dX2_act_271 : decode cX2_act 271 = .ok (.iload_n 3, 1) := by decide +kernel
theorem dX2_act_272 : decode cX2_act 272 = .ok (.iadd, 1) := by decide +kernel
theorem dX2_act_273 : decode cX2_act 273 = .ok (.lshl, 1) := by decide +kernel
theorem dX2_act_274 : decode cX2_act 274 = .ok (.lor, 1) := by decide +kernel
theorem dX2_act_275 : decode cX2_act 275 = .ok (.putfield 9, 3) := by decide +kernel
theorem dX2_act_278 : decode cX2_act 278 = .ok (.aload_n 0, 1) := by decide +kernel
theorem dX2_act_279 : decode cX2_act 279 = .ok (.iload_n 1, 1) := by decide +kernel
theorem dX2_act_280 : decode cX2_act 280 = .ok (.iload 4, 2) := by decide +kernel
theorem dX2_act_282 : decode cX2_act 282 = .ok (.iconst 1, 1) := by decide +kernel
theorem dX2_act_283 : decode cX2_act 283 = .ok (.iadd, 1) := by decide +kernel
theorem dX2_act_284 : decode cX2_act 284 = .ok (.invokevirtual 70, 3) := by decide +kernel
theorem dX2_act_287 : decode cX2_act 287 = .ok (.return_, 1) := by decide +kernel
theorem dX2_hasQueue_0 : decode cX2_hasQueue 0 = .ok (.aload_n 0, 1) := by decide +kernel
theorem dX2_hasQueue_1 : decode cX2_hasQueue 1 = .ok (.iload_n 1, 1) := by decide +kernel
theorem dX2_hasQueue_2 : decode cX2_hasQueue 2 = .ok (.invokevirtual 81, 3) := by decide +kernel
theorem dX2_hasQueue_5 : decode cX2_hasQueue 5 = .ok (.ifCond .eq 7, 3) := by decide +kernel
theorem dX2_hasQueue_8 : decode cX2_hasQueue 8 = .ok (.iconst 1, 1) := by decide +kernel
theorem dX2_hasQueue_9 : decode cX2_hasQueue 9 = .ok (.goto 4, 3) := by decide +kernel
theorem dX2_hasQueue_12 : decode cX2_hasQueue 12 = .ok (.iconst 0, 1) := by decide +kernel
theorem dX2_hasQueue_13 : decode cX2_hasQueue 13 = .ok (.ireturn, 1) := by decide +kernel
theorem dX2_holderOf_0 : decode cX2_holderOf 0 = .ok (.aload_n 0, 1) := by decide +kernel
theorem dX2_holderOf_1 : decode cX2_holderOf 1 = .ok (.getfield 9, 3) := by decide +kernel
theorem dX2_holderOf_4 : decode cX2_holderOf 4 = .ok (.bipush 36, 2) := by decide +kernel
theorem dX2_holderOf_6 : decode cX2_holderOf 6 = .ok (.iconst 3, 1) := by decide +kernel
theorem dX2_holderOf_7 : decode cX2_holderOf 7 = .ok (.iload_n 1, 1) := by decide +kernel
theorem dX2_holderOf_8 : decode cX2_holderOf 8 = .ok (.imul, 1) := by decide +kernel
theorem dX2_holderOf_9 : decode cX2_holderOf 9 = .ok (.iadd, 1) := by decide +kernel
theorem dX2_holderOf_10 : decode cX2_holderOf 10 = .ok (.lushr, 1) := by decide +kernel
theorem dX2_holderOf_11 : decode cX2_holderOf 11 = .ok (.l2i, 1) := by decide +kernel
theorem dX2_holderOf_12 : decode cX2_holderOf 12 = .ok (.bipush 7, 2) := by decide +kernel
theorem dX2_holderOf_14 : decode cX2_holderOf 14 = .ok (.iand, 1) := by decide +kernel
theorem dX2_holderOf_15 : decode cX2_holderOf 15 = .ok (.ireturn, 1) := by decide +kernel
theorem dX2_canAct_0 : decode cX2_canAct 0 = .ok (.aload_n 0, 1) := by decide +kernel
theorem dX2_canAct_1 : decode cX2_canAct 1 = .ok (.iload_n 1, 1) := by decide +kernel
theorem dX2_canAct_2 : decode cX2_canAct 2 = .ok (.invokevirtual 78, 3) := by decide +kernel
theorem dX2_canAct_5 : decode cX2_canAct 5 = .ok (.istore_n 2, 1) := by decide +kernel
theorem dX2_canAct_6 : decode cX2_canAct 6 = .ok (.iload_n 2, 1) := by decide +kernel
theorem dX2_canAct_7 : decode cX2_canAct 7 = .ok (.aload_n 0, 1) := by decide +kernel
theorem dX2_canAct_8 : decode cX2_canAct 8 = .ok (.getfield 38, 3) := by decide +kernel
theorem dX2_canAct_11 : decode cX2_canAct 11 = .ok (.getfield 55, 3) := by decide +kernel
theorem dX2_canAct_14 : decode cX2_canAct 14 = .ok (.if_icmp .lt 5, 3) := by decide +kernel
theorem dX2_canAct_17 : decode cX2_canAct 17 = .ok (.iconst 0, 1) := by decide +kernel
theorem dX2_canAct_18 : decode cX2_canAct 18 = .ok (.ireturn, 1) := by decide +kernel
theorem dX2_canAct_19 : decode cX2_canAct 19 = .ok (.aload_n 0, 1) := by decide +kernel
theorem dX2_canAct_20 : decode cX2_canAct 20 = .ok (.getfield 38, 3) := by decide +kernel
theorem dX2_canAct_23 : decode cX2_canAct 23 = .ok (.getfield 84, 3) := by decide +kernel
theorem dX2_canAct_26 : decode cX2_canAct 26 = .ok (.iload_n 2, 1) := by decide +kernel
theorem dX2_canAct_27 : decode cX2_canAct 27 = .ok (.bipush 7, 2) := by decide +kernel
theorem dX2_canAct_29 : decode cX2_canAct 29 = .ok (.iand, 1) := by decide +kernel
theorem dX2_canAct_30 : decode cX2_canAct 30 = .ok (.iaload, 1) := by decide +kernel
theorem dX2_canAct_31 : decode cX2_canAct 31 = .ok (.bipush 63, 2) := by decide +kernel
theorem dX2_canAct_33 : decode cX2_canAct 33 = .ok (.iand, 1) := by decide +kernel
theorem dX2_canAct_34 : decode cX2_canAct 34 = .ok (.istore_n 3, 1) := by decide +kernel
theorem dX2_canAct_35 : decode cX2_canAct 35 = .ok (.aload_n 0, 1) := by decide +kernel
theorem dX2_canAct_36 : decode cX2_canAct 36 = .ok (.getfield 38, 3) := by decide +kernel
theorem dX2_canAct_39 : decode cX2_canAct 39 = .ok (.getfield 87, 3) := by decide +kernel
theorem dX2_canAct_42 : decode cX2_canAct 42 = .ok (.iload_n 3, 1) := by decide +kernel
theorem dX2_canAct_43 : decode cX2_canAct 43 = .ok (.iaload, 1) := by decide +kernel
theorem dX2_canAct_44 : decode cX2_canAct 44 = .ok (.tableswitch 132 0 4 #[36, 132, 66, 88, 118], 36) := by decide +kernel
theorem dX2_canAct_80 : decode cX2_canAct 80 = .ok (.aload_n 0, 1) := by decide +kernel
theorem dX2_canAct_81 : decode cX2_canAct 81 = .ok (.aload_n 0, 1) := by decide +kernel
theorem dX2_canAct_82 : decode cX2_canAct 82 = .ok (.getfield 38, 3) := by decide +kernel
theorem dX2_canAct_85 : decode cX2_canAct 85 = .ok (.getfield 90, 3) := by decide +kernel
theorem dX2_canAct_88 : decode cX2_canAct 88 = .ok (.iload_n 3, 1) := by decide +kernel
theorem dX2_canAct_89 : decode cX2_canAct 89 = .ok (.iaload, 1) := by decide +kernel
theorem dX2_canAct_90 : decode cX2_canAct 90 = .ok (.invokevirtual 93, 3) := by decide +kernel
theorem dX2_canAct_93 : decode cX2_canAct 93 = .ok (.ifCond .eq 11, 3) := by decide +kernel
theorem dX2_canAct_96 : decode cX2_canAct 96 = .ok (.aload_n 0, 1) := by decide +kernel
theorem dX2_canAct_97 : decode cX2_canAct 97 = .ok (.iload_n 1, 1) := by decide +kernel
theorem dX2_canAct_98 : decode cX2_canAct 98 = .ok (.invokevirtual 97, 3) := by decide +kernel
theorem dX2_canAct_101 : decode cX2_canAct 101 = .ok (.ifCond .ne 7, 3) := by decide +kernel
theorem dX2_canAct_104 : decode cX2_canAct 104 = .ok (.iconst 1, 1) := by decide +kernel
theorem dX2_canAct_105 : decode cX2_canAct 105 = .ok (.goto 4, 3) := by decide +kernel
theorem dX2_canAct_108 : decode cX2_canAct 108 = .ok (.iconst 0, 1) := by decide +kernel
theorem dX2_canAct_109 : decode cX2_canAct 109 = .ok (.ireturn, 1) := by decide +kernel
theorem dX2_canAct_110 : decode cX2_canAct 110 = .ok (.aload_n 0, 1) := by decide +kernel
theorem dX2_canAct_111 : decode cX2_canAct 111 = .ok (.aload_n 0, 1) := by decide +kernel
theorem dX2_canAct_112 : decode cX2_canAct 112 = .ok (.getfield 38, 3) := by decide +kernel
theorem dX2_canAct_115 : decode cX2_canAct 115 = .ok (.getfield 100, 3) := by decide +kernel
theorem dX2_canAct_118 : decode cX2_canAct 118 = .ok (.iload_n 3, 1) := by decide +kernel
theorem dX2_canAct_119 : decode cX2_canAct 119 = .ok (.iaload, 1) := by decide +kernel
theorem dX2_canAct_120 : decode cX2_canAct 120 = .ok (.invokevirtual 74, 3) := by decide +kernel
theorem dX2_canAct_123 : decode cX2_canAct 123 = .ok (.ifCond .eq 7, 3) := by decide +kernel
theorem dX2_canAct_126 : decode cX2_canAct 126 = .ok (.iconst 1, 1) := by decide +kernel
theorem dX2_canAct_127 : decode cX2_canAct 127 = .ok (.goto 4, 3) := by decide +kernel
theorem dX2_canAct_130 : decode cX2_canAct 130 = .ok (.iconst 0, 1) := by decide +kernel
theorem dX2_canAct_131 : decode cX2_canAct 131 = .ok (.ireturn, 1) := by decide +kernel
theorem dX2_canAct_132 : decode cX2_canAct 132 = .ok (.aload_n 0, 1) := by decide +kernel
theorem dX2_canAct_133 : decode cX2_canAct 133 = .ok (.aload_n 0, 1) := by decide +kernel
theorem dX2_canAct_134 : decode cX2_canAct 134 = .ok (.getfield 38, 3) := by decide +kernel
theorem dX2_canAct_137 : decode cX2_canAct 137 = .ok (.getfield 90, 3) := by decide +kernel
theorem dX2_canAct_140 : decode cX2_canAct 140 = .ok (.iload_n 3, 1) := by decide +kernel
theorem dX2_canAct_141 : decode cX2_canAct 141 = .ok (.iaload, 1) := by decide +kernel
theorem dX2_canAct_142 : decode cX2_canAct 142 = .ok (.invokevirtual 103, 3) := by decide +kernel
theorem dX2_canAct_145 : decode cX2_canAct 145 = .ok (.ifCond .ne 15, 3) := by decide +kernel
theorem dX2_canAct_148 : decode cX2_canAct 148 = .ok (.aload_n 0, 1) := by decide +kernel
theorem dX2_canAct_149 : decode cX2_canAct 149 = .ok (.iload_n 1, 1) := by decide +kernel
theorem dX2_canAct_150 : decode cX2_canAct 150 = .ok (.invokevirtual 97, 3) := by decide +kernel
theorem dX2_canAct_153 : decode cX2_canAct 153 = .ok (.ifCond .ne 7, 3) := by decide +kernel
theorem dX2_canAct_156 : decode cX2_canAct 156 = .ok (.iconst 1, 1) := by decide +kernel
theorem dX2_canAct_157 : decode cX2_canAct 157 = .ok (.goto 4, 3) := by decide +kernel
theorem dX2_canAct_160 : decode cX2_canAct 160 = .ok (.iconst 0, 1) := by decide +kernel
theorem dX2_canAct_161 : decode cX2_canAct 161 = .ok (.ireturn, 1) := by decide +kernel
theorem dX2_canAct_162 : decode cX2_canAct 162 = .ok (.aload_n 0, 1) := by decide +kernel
theorem dX2_canAct_163 : decode cX2_canAct 163 = .ok (.iload_n 1, 1) := by decide +kernel
theorem dX2_canAct_164 : decode cX2_canAct 164 = .ok (.invokevirtual 97, 3) := by decide +kernel
theorem dX2_canAct_167 : decode cX2_canAct 167 = .ok (.ifCond .ne 7, 3) := by decide +kernel
theorem dX2_canAct_170 : decode cX2_canAct 170 = .ok (.iconst 1, 1) := by decide +kernel
theorem dX2_canAct_171 : decode cX2_canAct 171 = .ok (.goto 4, 3) := by decide +kernel
theorem dX2_canAct_174 : decode cX2_canAct 174 = .ok (.iconst 0, 1) := by decide +kernel
theorem dX2_canAct_175 : decode cX2_canAct 175 = .ok (.ireturn, 1) := by decide +kernel
theorem dX2_canAct_176 : decode cX2_canAct 176 = .ok (.iconst 1, 1) := by decide +kernel
theorem dX2_canAct_177 : decode cX2_canAct 177 = .ok (.ireturn, 1) := by decide +kernel
theorem dX2_sights_0 : decode cX2_sights 0 = .ok (.aload_n 0, 1) := by decide +kernel
theorem dX2_sights_1 : decode cX2_sights 1 = .ok (.getfield 38, 3) := by decide +kernel
theorem dX2_sights_4 : decode cX2_sights 4 = .ok (.getfield 84, 3) := by decide +kernel
theorem dX2_sights_7 : decode cX2_sights 7 = .ok (.aload_n 0, 1) := by decide +kernel
theorem dX2_sights_8 : decode cX2_sights 8 = .ok (.iload_n 1, 1) := by decide +kernel
theorem dX2_sights_9 : decode cX2_sights 9 = .ok (.invokevirtual 78, 3) := by decide +kernel
theorem dX2_sights_12 : decode cX2_sights 12 = .ok (.bipush 7, 2) := by decide +kernel
theorem dX2_sights_14 : decode cX2_sights 14 = .ok (.iand, 1) := by decide +kernel
theorem dX2_sights_15 : decode cX2_sights 15 = .ok (.iaload, 1) := by decide +kernel
theorem dX2_sights_16 : decode cX2_sights 16 = .ok (.bipush 63, 2) := by decide +kernel
theorem dX2_sights_18 : decode cX2_sights 18 = .ok (.iand, 1) := by decide +kernel
theorem dX2_sights_19 : decode cX2_sights 19 = .ok (.istore_n 2, 1) := by decide +kernel
theorem dX2_sights_20 : decode cX2_sights 20 = .ok (.aload_n 0, 1) := by decide +kernel
theorem dX2_sights_21 : decode cX2_sights 21 = .ok (.getfield 38, 3) := by decide +kernel
theorem dX2_sights_24 : decode cX2_sights 24 = .ok (.getfield 87, 3) := by decide +kernel
theorem dX2_sights_27 : decode cX2_sights 27 = .ok (.iload_n 2, 1) := by decide +kernel
theorem dX2_sights_28 : decode cX2_sights 28 = .ok (.iaload, 1) := by decide +kernel
theorem dX2_sights_29 : decode cX2_sights 29 = .ok (.istore_n 3, 1) := by decide +kernel
theorem dX2_sights_30 : decode cX2_sights 30 = .ok (.aload_n 0, 1) := by decide +kernel
theorem dX2_sights_31 : decode cX2_sights 31 = .ok (.getfield 21, 3) := by decide +kernel
theorem dX2_sights_34 : decode cX2_sights 34 = .ok (.iconst 2, 1) := by decide +kernel
theorem dX2_sights_35 : decode cX2_sights 35 = .ok (.if_icmp .lt 12, 3) := by decide +kernel
theorem dX2_sights_38 : decode cX2_sights 38 = .ok (.iload_n 3, 1) := by decide +kernel
theorem dX2_sights_39 : decode cX2_sights 39 = .ok (.ifCond .eq 12, 3) := by decide +kernel
theorem dX2_sights_42 : decode cX2_sights 42 = .ok (.iload_n 3, 1) := by decide +kernel
theorem dX2_sights_43 : decode cX2_sights 43 = .ok (.iconst 2, 1) := by decide +kernel
theorem dX2_sights_44 : decode cX2_sights 44 = .ok (.if_icmp .eq 7, 3) := by decide +kernel
theorem dX2_sights_47 : decode cX2_sights 47 = .ok (.sipush 256, 3) := by decide +kernel
theorem dX2_sights_50 : decode cX2_sights 50 = .ok (.ireturn, 1) := by decide +kernel
theorem dX2_sights_51 : decode cX2_sights 51 = .ok (.aload_n 0, 1) := by decide +kernel
theorem dX2_sights_52 : decode cX2_sights 52 = .ok (.getfield 38, 3) := by decide +kernel
theorem dX2_sights_55 : decode cX2_sights 55 = .ok (.getfield 90, 3) := by decide +kernel
theorem dX2_sights_58 : decode cX2_sights 58 = .ok (.iload_n 2, 1) := by decide +kernel
theorem dX2_sights_59 : decode cX2_sights 59 = .ok (.iaload, 1) := by decide +kernel
theorem dX2_sights_60 : decode cX2_sights 60 = .ok (.istore 4, 2) := by decide +kernel
theorem dX2_sights_62 : decode cX2_sights 62 = .ok (.aload_n 0, 1) := by decide +kernel
theorem dX2_sights_63 : decode cX2_sights 63 = .ok (.getfield 21, 3) := by decide +kernel
theorem dX2_sights_66 : decode cX2_sights 66 = .ok (.iconst 3, 1) := by decide +kernel
theorem dX2_sights_67 : decode cX2_sights 67 = .ok (.if_icmp .eq 12, 3) := by decide +kernel
theorem dX2_sights_70 : decode cX2_sights 70 = .ok (.aload_n 0, 1) := by decide +kernel
theorem dX2_sights_71 : decode cX2_sights 71 = .ok (.iload 4, 2) := by decide +kernel
theorem dX2_sights_73 : decode cX2_sights 73 = .ok (.invokevirtual 93, 3) := by decide +kernel
theorem dX2_sights_76 : decode cX2_sights 76 = .ok (.ifCond .eq 28, 3) := by decide +kernel
theorem dX2_sights_79 : decode cX2_sights 79 = .ok (.aload_n 0, 1) := by decide +kernel
theorem dX2_sights_80 : decode cX2_sights 80 = .ok (.iload 4, 2) := by decide +kernel
theorem dX2_sights_82 : decode cX2_sights 82 = .ok (.invokevirtual 106, 3) := by decide +kernel
theorem dX2_sights_85 : decode cX2_sights 85 = .ok (.istore 5, 2) := by decide +kernel
theorem dX2_sights_87 : decode cX2_sights 87 = .ok (.iconst 1, 1) := by decide +kernel
theorem dX2_sights_88 : decode cX2_sights 88 = .ok (.iload 5, 2) := by decide +kernel
theorem dX2_sights_90 : decode cX2_sights 90 = .ok (.ifCond .ne 8, 3) := by decide +kernel
theorem dX2_sights_93 : decode cX2_sights 93 = .ok (.bipush 8, 2) := by decide +kernel
theorem dX2_sights_95 : decode cX2_sights 95 = .ok (.goto 7, 3) := by decide +kernel
theorem dX2_sights_98 : decode cX2_sights 98 = .ok (.iload 5, 2) := by decide +kernel
theorem dX2_sights_100 : decode cX2_sights 100 = .ok (.iconst 1, 1) := by decide +kernel
theorem dX2_sights_101 : decode cX2_sights 101 = .ok (.isub, 1) := by decide +kernel
theorem dX2_sights_102 : decode cX2_sights 102 = .ok (.ishl, 1) := by decide +kernel
theorem dX2_sights_103 : decode cX2_sights 103 = .ok (.ireturn, 1) := by decide +kernel
theorem dX2_sights_104 : decode cX2_sights 104 = .ok (.aload_n 0, 1) := by decide +kernel
theorem dX2_sights_105 : decode cX2_sights 105 = .ok (.getfield 25, 3) := by decide +kernel
theorem dX2_sights_108 : decode cX2_sights 108 = .ok (.iload 4, 2) := by decide +kernel
theorem dX2_sights_110 : decode cX2_sights 110 = .ok (.bipush 7, 2) := by decide +kernel
theorem dX2_sights_112 : decode cX2_sights 112 = .ok (.iand, 1) := by decide +kernel
theorem dX2_sights_113 : decode cX2_sights 113 = .ok (.iaload, 1) := by decide +kernel
theorem dX2_sights_114 : decode cX2_sights 114 = .ok (.aload_n 0, 1) := by decide +kernel
theorem dX2_sights_115 : decode cX2_sights 115 = .ok (.invokevirtual 109, 3) := by decide +kernel
theorem dX2_sights_118 : decode cX2_sights 118 = .ok (.iand, 1) := by decide +kernel
theorem dX2_sights_119 : decode cX2_sights 119 = .ok (.istore 5, 2) := by decide +kernel
theorem dX2_sights_121 : decode cX2_sights 121 = .ok (.aload_n 0, 1) := by decide +kernel
theorem dX2_sights_122 : decode cX2_sights 122 = .ok (.iload_n 1, 1) := by decide +kernel
theorem dX2_sights_123 : decode cX2_sights 123 = .ok (.iload_n 2, 1) := by decide +kernel
theorem dX2_sights_124 : decode cX2_sights 124 = .ok (.bipush 8, 2) := by decide +kernel
theorem dX2_sights_126 : decode cX2_sights 126 = .ok (.invokevirtual 113, 3) := by decide +kernel
theorem dX2_sights_129 : decode cX2_sights 129 = .ok (.istore 6, 2) := by decide +kernel
theorem dX2_sights_131 : decode cX2_sights 131 = .ok (.iconst 0, 1) := by decide +kernel
theorem dX2_sights_132 : decode cX2_sights 132 = .ok (.istore 7, 2) := by decide +kernel
theorem dX2_sights_134 : decode cX2_sights 134 = .ok (.iconst 0, 1) := by decide +kernel
theorem dX2_sights_135 : decode cX2_sights 135 = .ok (.istore 8, 2) := by decide +kernel
theorem dX2_sights_137 : decode cX2_sights 137 = .ok (.iload 8, 2) := by decide +kernel
theorem dX2_sights_139 : decode cX2_sights 139 = .ok (.bipush 8, 2) := by decide +kernel
theorem dX2_sights_141 : decode cX2_sights 141 = .ok (.if_icmp .ge 37, 3) := by decide +kernel
theorem dX2_sights_144 : decode cX2_sights 144 = .ok (.iload 5, 2) := by decide +kernel
theorem dX2_sights_146 : decode cX2_sights 146 = .ok (.iload 6, 2) := by decide +kernel
theorem dX2_sights_148 : decode cX2_sights 148 = .ok (.iand, 1) := by decide +kernel
theorem dX2_sights_149 : decode cX2_sights 149 = .ok (.iconst 1, 1) := by decide +kernel
theorem dX2_sights_150 : decode cX2_sights 150 = .ok (.iload 8, 2) := by decide +kernel
theorem dX2_sights_152 : decode cX2_sights 152 = .ok (.ishl, 1) := by decide +kernel
theorem dX2_sights_153 : decode cX2_sights 153 = .ok (.iand, 1) := by decide +kernel
theorem dX2_sights_154 : decode cX2_sights 154 = .ok (.ifCond .eq 18, 3) := by decide +kernel
theorem dX2_sights_157 : decode cX2_sights 157 = .ok (.iload 7, 2) := by decide +kernel
theorem dX2_sights_159 : decode cX2_sights 159 = .ok (.aload_n 0, 1) := by decide +kernel
theorem dX2_sights_160 : decode cX2_sights 160 = .ok (.iload 8, 2) := by decide +kernel
theorem dX2_sights_162 : decode cX2_sights 162 = .ok (.invokevirtual 117, 3) := by decide +kernel
theorem dX2_sights_165 : decode cX2_sights 165 = .ok (.sipush 256, 3) := by decide +kernel
theorem dX2_sights_168 : decode cX2_sights 168 = .ok (.ior, 1) := by decide +kernel
theorem dX2_sights_169 : decode cX2_sights 169 = .ok (.ior, 1) := by decide +kernel
theorem dX2_sights_170 : decode cX2_sights 170 = .ok (.istore 7, 2) := by decide +kernel
theorem dX2_sights_172 : decode cX2_sights 172 = .ok (.iinc 8 1, 3) := by decide +kernel
theorem dX2_sights_175 : decode cX2_sights 175 = .ok (.goto (-38), 3) := by decide +kernel
theorem dX2_sights_178 : decode cX2_sights 178 = .ok (.iload 5, 2) := by decide +kernel
theorem dX2_sights_180 : decode cX2_sights 180 = .ok (.sipush 256, 3) := by decide +kernel
theorem dX2_sights_183 : decode cX2_sights 183 = .ok (.ior, 1) := by decide +kernel
theorem dX2_sights_184 : decode cX2_sights 184 = .ok (.iload 7, 2) := by decide +kernel
theorem dX2_sights_186 : decode cX2_sights 186 = .ok (.iconst (-1), 1) := by decide +kernel
theorem dX2_sights_187 : decode cX2_sights 187 = .ok (.ixor, 1) := by decide +kernel
theorem dX2_sights_188 : decode cX2_sights 188 = .ok (.iand, 1) := by decide +kernel
theorem dX2_sights_189 : decode cX2_sights 189 = .ok (.ireturn, 1) := by decide +kernel
theorem dX2_emptyFirst_0 : decode cX2_emptyFirst 0 = .ok (.aload_n 0, 1) := by decide +kernel
theorem dX2_emptyFirst_1 : decode cX2_emptyFirst 1 = .ok (.iload_n 1, 1) := by decide +kernel
theorem dX2_emptyFirst_2 : decode cX2_emptyFirst 2 = .ok (.invokevirtual 81, 3) := by decide +kernel
theorem dX2_emptyFirst_5 : decode cX2_emptyFirst 5 = .ok (.istore_n 2, 1) := by decide +kernel
theorem dX2_emptyFirst_6 : decode cX2_emptyFirst 6 = .ok (.iconst 0, 1) := by decide +kernel
theorem dX2_emptyFirst_7 : decode cX2_emptyFirst 7 = .ok (.istore_n 3, 1) := by decide +kernel
theorem dX2_emptyFirst_8 : decode cX2_emptyFirst 8 = .ok (.iload_n 3, 1) := by decide +kernel
theorem dX2_emptyFirst_9 : decode cX2_emptyFirst 9 = .ok (.bipush 8, 2) := by decide +kernel
theorem dX2_emptyFirst_11 : decode cX2_emptyFirst 11 = .ok (.if_icmp .ge 89, 3) := by decide +kernel
theorem dX2_emptyFirst_14 : decode cX2_emptyFirst 14 = .ok (.iload_n 2, 1) := by decide +kernel
theorem dX2_emptyFirst_15 : decode cX2_emptyFirst 15 = .ok (.iload_n 3, 1) := by decide +kernel
theorem dX2_emptyFirst_16 : decode cX2_emptyFirst 16 = .ok (.ishr, 1) := by decide +kernel
theorem dX2_emptyFirst_17 : decode cX2_emptyFirst 17 = .ok (.iconst 1, 1) := by decide +kernel
theorem dX2_emptyFirst_18 : decode cX2_emptyFirst 18 = .ok (.iand, 1) := by decide +kernel
theorem dX2_emptyFirst_19 : decode cX2_emptyFirst 19 = .ok (.ifCond .eq 75, 3) := by decide +kernel
theorem dX2_emptyFirst_22 : decode cX2_emptyFirst 22 = .ok (.aload_n 0, 1) := by decide +kernel
theorem dX2_emptyFirst_23 : decode cX2_emptyFirst 23 = .ok (.aload_n 0, 1) := by decide +kernel
theorem dX2_emptyFirst_24 : decode cX2_emptyFirst 24 = .ok (.getfield 38, 3) := by decide +kernel
theorem dX2_emptyFirst_27 : decode cX2_emptyFirst 27 = .ok (.getfield 90, 3) := by decide +kernel
theorem dX2_emptyFirst_30 : decode cX2_emptyFirst 30 = .ok (.aload_n 0, 1) := by decide +kernel
theorem dX2_emptyFirst_31 : decode cX2_emptyFirst 31 = .ok (.getfield 38, 3) := by decide +kernel
theorem dX2_emptyFirst_34 : decode cX2_emptyFirst 34 = .ok (.getfield 84, 3) := by decide +kernel
theorem dX2_emptyFirst_37 : decode cX2_emptyFirst 37 = .ok (.iload_n 3, 1) := by decide +kernel
theorem dX2_emptyFirst_38 : decode cX2_emptyFirst 38 = .ok (.iaload, 1) := by decide +kernel
theorem dX2_emptyFirst_39 : decode cX2_emptyFirst 39 = .ok (.bipush 63, 2) := by decide +kernel
theorem dX2_emptyFirst_41 : decode cX2_emptyFirst 41 = .ok (.iand, 1) := by decide +kernel
theorem dX2_emptyFirst_42 : decode cX2_emptyFirst 42 = .ok (.iaload, 1) := by decide +kernel
theorem dX2_emptyFirst_43 : decode cX2_emptyFirst 43 = .ok (.aload_n 0, 1) := by decide +kernel
theorem dX2_emptyFirst_44 : decode cX2_emptyFirst 44 = .ok (.iload_n 3, 1) := by decide +kernel
theorem dX2_emptyFirst_45 : decode cX2_emptyFirst 45 = .ok (.invokevirtual 120, 3) := by decide +kernel
theorem dX2_emptyFirst_48 : decode cX2_emptyFirst 48 = .ok (.invokevirtual 123, 3) := by decide +kernel
theorem dX2_emptyFirst_51 : decode cX2_emptyFirst 51 = .ok (.aload_n 0, 1) := by decide +kernel
theorem dX2_emptyFirst_52 : decode cX2_emptyFirst 52 = .ok (.dup, 1) := by decide +kernel
theorem dX2_emptyFirst_53 : decode cX2_emptyFirst 53 = .ok (.getfield 9, 3) := by decide +kernel
theorem dX2_emptyFirst_56 : decode cX2_emptyFirst 56 = .ok (.lconst 1, 1) := by decide +kernel
theorem dX2_emptyFirst_57 : decode cX2_emptyFirst 57 = .ok (.bipush 55, 2) := by decide +kernel
theorem dX2_emptyFirst_59 : decode cX2_emptyFirst 59 = .ok (.iload_n 3, 1) := by decide +kernel
theorem dX2_emptyFirst_60 : decode cX2_emptyFirst 60 = .ok (.iadd, 1) := by decide +kernel
theorem dX2_emptyFirst_61 : decode cX2_emptyFirst 61 = .ok (.lshl, 1) := by decide +kernel
theorem dX2_emptyFirst_62 : decode cX2_emptyFirst 62 = .ok (.ldc2_w 126, 3) := by decide +kernel
theorem dX2_emptyFirst_65 : decode cX2_emptyFirst 65 = .ok (.lxor, 1) := by decide +kernel
theorem dX2_emptyFirst_66 : decode cX2_emptyFirst 66 = .ok (.land, 1) := by decide +kernel
theorem dX2_emptyFirst_67 : decode cX2_emptyFirst 67 = .ok (.putfield 9, 3) := by decide +kernel
theorem dX2_emptyFirst_70 : decode cX2_emptyFirst 70 = .ok (.aload_n 0, 1) := by decide +kernel
theorem dX2_emptyFirst_71 : decode cX2_emptyFirst 71 = .ok (.dup, 1) := by decide +kernel
theorem dX2_emptyFirst_72 : decode cX2_emptyFirst 72 = .ok (.getfield 15, 3) := by decide +kernel
theorem dX2_emptyFirst_75 : decode cX2_emptyFirst 75 = .ok (.ldc2_w 128, 3) := by decide +kernel
theorem dX2_emptyFirst_78 : decode cX2_emptyFirst 78 = .ok (.bipush 24, 2) := by decide +kernel
theorem dX2_emptyFirst_80 : decode cX2_emptyFirst 80 = .ok (.iconst 4, 1) := by decide +kernel
theorem dX2_emptyFirst_81 : decode cX2_emptyFirst 81 = .ok (.iload_n 3, 1) := by decide +kernel
theorem dX2_emptyFirst_82 : decode cX2_emptyFirst 82 = .ok (.imul, 1) := by decide +kernel
theorem dX2_emptyFirst_83 : decode cX2_emptyFirst 83 = .ok (.iadd, 1) := by decide +kernel
theorem dX2_emptyFirst_84 : decode cX2_emptyFirst 84 = .ok (.lshl, 1) := by decide +kernel
theorem dX2_emptyFirst_85 : decode cX2_emptyFirst 85 = .ok (.ldc2_w 126, 3) := by decide +kernel
theorem dX2_emptyFirst_88 : decode cX2_emptyFirst 88 = .ok (.lxor, 1) := by decide +kernel
theorem dX2_emptyFirst_89 : decode cX2_emptyFirst 89 = .ok (.land, 1) := by decide +kernel
theorem dX2_emptyFirst_90 : decode cX2_emptyFirst 90 = .ok (.putfield 15, 3) := by decide +kernel
theorem dX2_emptyFirst_93 : decode cX2_emptyFirst 93 = .ok (.return_, 1) := by decide +kernel
theorem dX2_emptyFirst_94 : decode cX2_emptyFirst 94 = .ok (.iinc 3 1, 3) := by decide +kernel
theorem dX2_emptyFirst_97 : decode cX2_emptyFirst 97 = .ok (.goto (-89), 3) := by decide +kernel
theorem dX2_emptyFirst_100 : decode cX2_emptyFirst 100 = .ok (.return_, 1) := by decide +kernel
theorem dX2_outcome_0 : decode cX2_outcome 0 = .ok (.iconst 0, 1) := by decide +kernel
theorem dX2_outcome_1 : decode cX2_outcome 1 = .ok (.istore_n 1, 1) := by decide +kernel
theorem dX2_outcome_2 : decode cX2_outcome 2 = .ok (.iconst 0, 1) := by decide +kernel
theorem dX2_outcome_3 : decode cX2_outcome 3 = .ok (.istore_n 2, 1) := by decide +kernel
theorem dX2_outcome_4 : decode cX2_outcome 4 = .ok (.iload_n 2, 1) := by decide +kernel
theorem dX2_outcome_5 : decode cX2_outcome 5 = .ok (.iconst 5, 1) := by decide +kernel
theorem dX2_outcome_6 : decode cX2_outcome 6 = .ok (.if_icmp .ge 19, 3) := by decide +kernel
theorem dX2_outcome_9 : decode cX2_outcome 9 = .ok (.iload_n 1, 1) := by decide +kernel
theorem dX2_outcome_10 : decode cX2_outcome 10 = .ok (.iconst 4, 1) := by decide +kernel
theorem dX2_outcome_11 : decode cX2_outcome 11 = .ok (.ishl, 1) := by decide +kernel
theorem dX2_outcome_12 : decode cX2_outcome 12 = .ok (.aload_n 0, 1) := by decide +kernel
theorem dX2_outcome_13 : decode cX2_outcome 13 = .ok (.iload_n 2, 1) := by decide +kernel
theorem dX2_outcome_14 : decode cX2_outcome 14 = .ok (.invokevirtual 74, 3) := by decide +kernel
theorem dX2_outcome_17 : decode cX2_outcome 17 = .ok (.ior, 1) := by decide +kernel
theorem dX2_outcome_18 : decode cX2_outcome 18 = .ok (.istore_n 1, 1) := by decide +kernel
theorem dX2_outcome_19 : decode cX2_outcome 19 = .ok (.iinc 2 1, 3) := by decide +kernel
theorem dX2_outcome_22 : decode cX2_outcome 22 = .ok (.goto (-18), 3) := by decide +kernel
theorem dX2_outcome_25 : decode cX2_outcome 25 = .ok (.iload_n 1, 1) := by decide +kernel
theorem dX2_outcome_26 : decode cX2_outcome 26 = .ok (.iconst 4, 1) := by decide +kernel
theorem dX2_outcome_27 : decode cX2_outcome 27 = .ok (.ishl, 1) := by decide +kernel
theorem dX2_outcome_28 : decode cX2_outcome 28 = .ok (.istore_n 1, 1) := by decide +kernel
theorem dX2_outcome_29 : decode cX2_outcome 29 = .ok (.iconst 0, 1) := by decide +kernel
theorem dX2_outcome_30 : decode cX2_outcome 30 = .ok (.istore_n 2, 1) := by decide +kernel
theorem dX2_outcome_31 : decode cX2_outcome 31 = .ok (.iload_n 2, 1) := by decide +kernel
theorem dX2_outcome_32 : decode cX2_outcome 32 = .ok (.aload_n 0, 1) := by decide +kernel
theorem dX2_outcome_33 : decode cX2_outcome 33 = .ok (.getfield 38, 3) := by decide +kernel
theorem dX2_outcome_36 : decode cX2_outcome 36 = .ok (.getfield 65, 3) := by decide +kernel
theorem dX2_outcome_39 : decode cX2_outcome 39 = .ok (.if_icmp .ge 25, 3) := by decide +kernel
theorem dX2_outcome_42 : decode cX2_outcome 42 = .ok (.aload_n 0, 1) := by decide +kernel
theorem dX2_outcome_43 : decode cX2_outcome 43 = .ok (.iload_n 2, 1) := by decide +kernel
theorem dX2_outcome_44 : decode cX2_outcome 44 = .ok (.invokevirtual 78, 3) := by decide +kernel
theorem dX2_outcome_47 : decode cX2_outcome 47 = .ok (.bipush 8, 2) := by decide +kernel
theorem dX2_outcome_49 : decode cX2_outcome 49 = .ok (.if_icmp .eq 9, 3) := by decide +kernel
theorem dX2_outcome_52 : decode cX2_outcome 52 = .ok (.iload_n 1, 1) := by decide +kernel
theorem dX2_outcome_53 : decode cX2_outcome 53 = .ok (.iconst 1, 1) := by decide +kernel
theorem dX2_outcome_54 : decode cX2_outcome 54 = .ok (.iload_n 2, 1) := by decide +kernel
theorem dX2_outcome_55 : decode cX2_outcome 55 = .ok (.ishl, 1) := by decide +kernel
theorem dX2_outcome_56 : decode cX2_outcome 56 = .ok (.ior, 1) := by decide +kernel
theorem dX2_outcome_57 : decode cX2_outcome 57 = .ok (.istore_n 1, 1) := by decide +kernel
theorem dX2_outcome_58 : decode cX2_outcome 58 = .ok (.iinc 2 1, 3) := by decide +kernel
theorem dX2_outcome_61 : decode cX2_outcome 61 = .ok (.goto (-30), 3) := by decide +kernel
theorem dX2_outcome_64 : decode cX2_outcome 64 = .ok (.iload_n 1, 1) := by decide +kernel
theorem dX2_outcome_65 : decode cX2_outcome 65 = .ok (.ireturn, 1) := by decide +kernel
theorem dX2_mayHurry_0 : decode cX2_mayHurry 0 = .ok (.aload_n 0, 1) := by decide +kernel
theorem dX2_mayHurry_1 : decode cX2_mayHurry 1 = .ok (.iload_n 1, 1) := by decide +kernel
theorem dX2_mayHurry_2 : decode cX2_mayHurry 2 = .ok (.invokevirtual 78, 3) := by decide +kernel
theorem dX2_mayHurry_5 : decode cX2_mayHurry 5 = .ok (.istore_n 2, 1) := by decide +kernel
theorem dX2_mayHurry_6 : decode cX2_mayHurry 6 = .ok (.iload_n 2, 1) := by decide +kernel
theorem dX2_mayHurry_7 : decode cX2_mayHurry 7 = .ok (.aload_n 0, 1) := by decide +kernel
theorem dX2_mayHurry_8 : decode cX2_mayHurry 8 = .ok (.getfield 38, 3) := by decide +kernel
theorem dX2_mayHurry_11 : decode cX2_mayHurry 11 = .ok (.getfield 55, 3) := by decide +kernel
theorem dX2_mayHurry_14 : decode cX2_mayHurry 14 = .ok (.if_icmp .lt 5, 3) := by decide +kernel
theorem dX2_mayHurry_17 : decode cX2_mayHurry 17 = .ok (.iconst 0, 1) := by decide +kernel
theorem dX2_mayHurry_18 : decode cX2_mayHurry 18 = .ok (.ireturn, 1) := by decide +kernel
theorem dX2_mayHurry_19 : decode cX2_mayHurry 19 = .ok (.aload_n 0, 1) := by decide +kernel
theorem dX2_mayHurry_20 : decode cX2_mayHurry 20 = .ok (.getfield 38, 3) := by decide +kernel
theorem dX2_mayHurry_23 : decode cX2_mayHurry 23 = .ok (.getfield 84, 3) := by decide +kernel
theorem dX2_mayHurry_26 : decode cX2_mayHurry 26 = .ok (.iload_n 2, 1) := by decide +kernel
theorem dX2_mayHurry_27 : decode cX2_mayHurry 27 = .ok (.bipush 7, 2) := by decide +kernel
theorem dX2_mayHurry_29 : decode cX2_mayHurry 29 = .ok (.iand, 1) := by decide +kernel
theorem dX2_mayHurry_30 : decode cX2_mayHurry 30 = .ok (.iaload, 1) := by decide +kernel
theorem dX2_mayHurry_31 : decode cX2_mayHurry 31 = .ok (.bipush 63, 2) := by decide +kernel
theorem dX2_mayHurry_33 : decode cX2_mayHurry 33 = .ok (.iand, 1) := by decide +kernel
theorem dX2_mayHurry_34 : decode cX2_mayHurry 34 = .ok (.istore_n 3, 1) := by decide +kernel
theorem dX2_mayHurry_35 : decode cX2_mayHurry 35 = .ok (.aload_n 0, 1) := by decide +kernel
theorem dX2_mayHurry_36 : decode cX2_mayHurry 36 = .ok (.getfield 38, 3) := by decide +kernel
theorem dX2_mayHurry_39 : decode cX2_mayHurry 39 = .ok (.getfield 87, 3) := by decide +kernel
theorem dX2_mayHurry_42 : decode cX2_mayHurry 42 = .ok (.iload_n 3, 1) := by decide +kernel
theorem dX2_mayHurry_43 : decode cX2_mayHurry 43 = .ok (.iaload, 1) := by decide +kernel
theorem dX2_mayHurry_44 : decode cX2_mayHurry 44 = .ok (.iconst 1, 1) := by decide +kernel
theorem dX2_mayHurry_45 : decode cX2_mayHurry 45 = .ok (.if_icmp .ne 41, 3) := by decide +kernel
theorem dX2_mayHurry_48 : decode cX2_mayHurry 48 = .ok (.aload_n 0, 1) := by decide +kernel
theorem dX2_mayHurry_49 : decode cX2_mayHurry 49 = .ok (.getfield 21, 3) := by decide +kernel
theorem dX2_mayHurry_52 : decode cX2_mayHurry 52 = .ok (.iconst 1, 1) := by decide +kernel
theorem dX2_mayHurry_53 : decode cX2_mayHurry 53 = .ok (.if_icmp .eq 27, 3) := by decide +kernel
theorem dX2_mayHurry_56 : decode cX2_mayHurry 56 = .ok (.aload_n 0, 1) := by decide +kernel
theorem dX2_mayHurry_57 : decode cX2_mayHurry 57 = .ok (.getfield 21, 3) := by decide +kernel
theorem dX2_mayHurry_60 : decode cX2_mayHurry 60 = .ok (.iconst 2, 1) := by decide +kernel
theorem dX2_mayHurry_61 : decode cX2_mayHurry 61 = .ok (.if_icmp .ne 23, 3) := by decide +kernel
theorem dX2_mayHurry_64 : decode cX2_mayHurry 64 = .ok (.aload_n 0, 1) := by decide +kernel
theorem dX2_mayHurry_65 : decode cX2_mayHurry 65 = .ok (.aload_n 0, 1) := by decide +kernel
theorem dX2_mayHurry_66 : decode cX2_mayHurry 66 = .ok (.getfield 38, 3) := by decide +kernel
theorem dX2_mayHurry_69 : decode cX2_mayHurry 69 = .ok (.getfield 90, 3) := by decide +kernel
theorem dX2_mayHurry_72 : decode cX2_mayHurry 72 = .ok (.iload_n 3, 1) := by decide +kernel
theorem dX2_mayHurry_73 : decode cX2_mayHurry 73 = .ok (.iaload, 1) := by decide +kernel
theorem dX2_mayHurry_74 : decode cX2_mayHurry 74 = .ok (.invokevirtual 93, 3) := by decide +kernel
theorem dX2_mayHurry_77 : decode cX2_mayHurry 77 = .ok (.ifCond .ne 7, 3) := by decide +kernel
theorem dX2_mayHurry_80 : decode cX2_mayHurry 80 = .ok (.iconst 1, 1) := by decide +kernel
theorem dX2_mayHurry_81 : decode cX2_mayHurry 81 = .ok (.goto 4, 3) := by decide +kernel
theorem dX2_mayHurry_84 : decode cX2_mayHurry 84 = .ok (.iconst 0, 1) := by decide +kernel
theorem dX2_mayHurry_85 : decode cX2_mayHurry 85 = .ok (.ireturn, 1) := by decide +kernel
theorem dX2_mayHurry_86 : decode cX2_mayHurry 86 = .ok (.aload_n 0, 1) := by decide +kernel
theorem dX2_mayHurry_87 : decode cX2_mayHurry 87 = .ok (.getfield 38, 3) := by decide +kernel
theorem dX2_mayHurry_90 : decode cX2_mayHurry 90 = .ok (.getfield 87, 3) := by decide +kernel
theorem dX2_mayHurry_93 : decode cX2_mayHurry 93 = .ok (.iload_n 3, 1) := by decide +kernel
theorem dX2_mayHurry_94 : decode cX2_mayHurry 94 = .ok (.iaload, 1) := by decide +kernel
theorem dX2_mayHurry_95 : decode cX2_mayHurry 95 = .ok (.iconst 5, 1) := by decide +kernel
theorem dX2_mayHurry_96 : decode cX2_mayHurry 96 = .ok (.if_icmp .ne 7, 3) := by decide +kernel
theorem dX2_mayHurry_99 : decode cX2_mayHurry 99 = .ok (.iconst 1, 1) := by decide +kernel
theorem dX2_mayHurry_100 : decode cX2_mayHurry 100 = .ok (.goto 4, 3) := by decide +kernel
theorem dX2_mayHurry_103 : decode cX2_mayHurry 103 = .ok (.iconst 0, 1) := by decide +kernel
theorem dX2_mayHurry_104 : decode cX2_mayHurry 104 = .ok (.ireturn, 1) := by decide +kernel
theorem kn_X2_init : Kn yX2_init cX2_init 1 none 0 := ⟨wm_141, wm_142, by decide +kernel, by decide⟩
theorem kn_X2_setLocal : Kn yX2_setLocal cX2_setLocal 5 none 3 := ⟨wm_237, wm_142, by decide +kernel, by decide⟩
theorem kn_X2_sumAt : Kn yX2_sumAt cX2_sumAt 5 (some .int) 1 := ⟨wm_240, wm_142, by decide +kernel, by decide⟩
theorem kn_X2_valueOf : Kn yX2_valueOf cX2_valueOf 2 (some .int) 1 := ⟨wm_243, wm_142, by decide +kernel, by decide⟩
theorem kn_X2_goOn : Kn yX2_goOn cX2_goOn 7 none 2 := ⟨wm_244, wm_142, by decide +kernel, by decide⟩
theorem kn_X2_set : Kn yX2_set cX2_set 7 none 3 := ⟨wm_258, wm_142, by decide +kernel, by decide⟩
theorem kn_X2_begin : Kn yX2_begin cX2_begin 5 none 3 := ⟨wm_259, wm_142, by decide +kernel, by decide⟩
theorem kn_X2_doneActions : Kn yX2_doneActions cX2_doneActions 1 (some .int) 0 := ⟨wm_283, wm_142, by decide +kernel, by decide⟩
theorem kn_X2_earlierThan : Kn yX2_earlierThan cX2_earlierThan 2 (some .int) 1 := ⟨wm_284, wm_142, by decide +kernel, by decide⟩
theorem kn_X2_hasPublished : Kn yX2_hasPublished cX2_hasPublished 2 (some .boolean) 1 := ⟨wm_285, wm_142, by decide +kernel, by decide⟩
theorem kn_X2_isVolatile : Kn yX2_isVolatile cX2_isVolatile 2 (some .boolean) 1 := ⟨wm_286, wm_142, by decide +kernel, by decide⟩
theorem kn_X2_aheadOf : Kn yX2_aheadOf cX2_aheadOf 9 (some .int) 3 := ⟨wm_287, wm_142, by decide +kernel, by decide⟩
theorem kn_X2_isPublished : Kn yX2_isPublished cX2_isPublished 2 (some .boolean) 1 := ⟨wm_302, wm_142, by decide +kernel, by decide⟩
theorem kn_X2_nextOf : Kn yX2_nextOf cX2_nextOf 2 (some .int) 1 := ⟨wm_304, wm_142, by decide +kernel, by decide⟩
theorem kn_X2_inCell : Kn yX2_inCell cX2_inCell 2 (some .int) 1 := ⟨wm_305, wm_142, by decide +kernel, by decide⟩
theorem kn_X2_queueOf : Kn yX2_queueOf cX2_queueOf 2 (some .int) 1 := ⟨wm_306, wm_142, by decide +kernel, by decide⟩
theorem kn_X2_writtenBy : Kn yX2_writtenBy cX2_writtenBy 2 (some .int) 1 := ⟨wm_307, wm_142, by decide +kernel, by decide⟩
theorem kn_X2_seenValue : Kn yX2_seenValue cX2_seenValue 6 (some .int) 3 := ⟨wm_308, wm_142, by decide +kernel, by decide⟩
theorem kn_X2_putInCell : Kn yX2_putInCell cX2_putInCell 3 none 2 := ⟨wm_318, wm_142, by decide +kernel, by decide⟩
theorem kn_X2_write : Kn yX2_write cX2_write 4 none 3 := ⟨wm_319, wm_142, by decide +kernel, by decide⟩
theorem kn_X2_act : Kn yX2_act cX2_act 5 none 2 := ⟨wm_323, wm_142, by decide +kernel, by decide⟩
theorem kn_X2_hasQueue : Kn yX2_hasQueue cX2_hasQueue 2 (some .boolean) 1 := ⟨wm_341, wm_142, by decide +kernel, by decide⟩
theorem kn_X2_holderOf : Kn yX2_holderOf cX2_holderOf 2 (some .int) 1 := ⟨wm_342, wm_142, by decide +kernel, by decide⟩
theorem kn_X2_canAct : Kn yX2_canAct cX2_canAct 4 (some .boolean) 1 := ⟨wm_343, wm_142, by decide +kernel, by decide⟩
theorem kn_X2_sights : Kn yX2_sights cX2_sights 9 (some .int) 1 := ⟨wm_350, wm_142, by decide +kernel, by decide⟩
theorem kn_X2_emptyFirst : Kn yX2_emptyFirst cX2_emptyFirst 4 none 1 := ⟨wm_368, wm_142, by decide +kernel, by decide⟩
theorem kn_X2_outcome : Kn yX2_outcome cX2_outcome 3 (some .int) 0 := ⟨wm_374, wm_142, by decide +kernel, by decide⟩
theorem kn_X2_mayHurry : Kn yX2_mayHurry cX2_mayHurry 4 (some .boolean) 1 := ⟨wm_423, wm_142, by decide +kernel, by decide⟩
/-! ===== LitmusHouse$Machine.<init>()V ===== -/
def b_X2_init_0 (a0 : Nat) (h : AH) : Option (AH) :=
  (ok_h a0).bind fun x1 => (p_j h a0 2 0 (0 : Int64)).bind fun h2 => (p_j h2 a0 2 1 (0 : Int64)).bind fun h3 => (p_j h3 a0 2 2 (0 : Int64)).bind fun h4 => (p_i h4 a0 2 3 (0 : Int32)).bind fun h5 => (n_a h5 100 (8 : Int32)).bind fun h6 => (p_r h6 a0 2 4 (hp_n h5)).bind fun h7 => (n_a h7 100 (2 : Int32)).bind fun h8 => (p_r h8 a0 2 5 (hp_n h7)).bind fun h9 => (n_a h9 100 (4 : Int32)).bind fun h10 => (p_r h10 a0 2 6 (hp_n h9)).bind fun h11 => (ok_h (hp_n h11)).bind fun x13 => (f_X0_init (hp_n h11) (st_n h11 0 18)).bind fun h14 => (p_r h14 a0 2 7 (hp_n h11)).bind fun h15 => (p_i h15 a0 2 8 (0 : Int32)).bind fun h16 => some h16
set_option maxHeartbeats 4000000 in
set_option maxRecDepth 100000 in
theorem q_X2_init_0 {a0 : Nat} {h hE : AH} (hf : b_X2_init_0 a0 h = some hE) : JD cX2_init 1 RX2 "<init>" none (3) 0 [(0, .inr (.inr (a0)))] [] h hE none := by
  unfold b_X2_init_0 at hf
  obtain ⟨x1, e1, hf⟩ := bnd hf
  obtain ⟨h2, e2, hf⟩ := bnd hf
  have m2 := nn_pj e2
  obtain ⟨h3, e3, hf⟩ := bnd hf
  have m3 := nn_pj e3
  obtain ⟨h4, e4, hf⟩ := bnd hf
  have m4 := nn_pj e4
  obtain ⟨h5, e5, hf⟩ := bnd hf
  have m5 := nn_pi e5
  obtain ⟨h6, e6, hf⟩ := bnd hf
  have m6 := nn_n e6
  obtain ⟨h7, e7, hf⟩ := bnd hf
  have m7 := nn_pr e7
  obtain ⟨h8, e8, hf⟩ := bnd hf
  have m8 := nn_n e8
  obtain ⟨h9, e9, hf⟩ := bnd hf
  have m9 := nn_pr e9
  obtain ⟨h10, e10, hf⟩ := bnd hf
  have m10 := nn_n e10
  obtain ⟨h11, e11, hf⟩ := bnd hf
  have m11 := nn_pr e11
  have m12 := nn_o (h := h11) (c := 0) (n := 18)
  obtain ⟨x13, e13, hf⟩ := bnd hf
  obtain ⟨h14, e14, hf⟩ := bnd hf
  have k14 := c_X0_init e14
  have m14 := (k14 default_g).1
  obtain ⟨h15, e15, hf⟩ := bnd hf
  have m15 := nn_pr e15
  obtain ⟨h16, e16, hf⟩ := bnd hf
  have m16 := nn_pi e16
  have hh := Option.some.inj hf
  subst hh
  have mE : hp_n h16 ≤ hp_n h16 ∧ hp_s h16 ≤ hp_s h16 := ⟨Nat.le_refl _, Nat.le_refl _⟩
  refine ⟨by omega, fun X g K ok nmx lev hK en => ?_⟩
  refine tj_aload_n ok 0 dX2_init_0 rfl rfl ?_
  refine tj_objInit (rest := ([] : List TV).map (vl g)) ok lev (by omega) (of_if e1).1 wm_143 wm_75 wm_obj (rs_ok (Nat.le_of_ble_eq_true rfl)) dX2_init_1 ?_
  refine tj_aload_n ok 0 dX2_init_4 rfl rfl ?_
  refine tj_lconst (v := 0) ok dX2_init_5 (by decide) ?_
  refine tj_putJ (k := 0) ok fcX2 (by decide) wm_144 rfl (Or.inl rfl) rfl dX2_init_6 e2 ?_
  refine tj_aload_n ok 0 dX2_init_9 rfl rfl ?_
  refine tj_lconst (v := 0) ok dX2_init_10 (by decide) ?_
  refine tj_putJ (k := 1) ok fcX2 (by decide) wm_145 rfl (Or.inl rfl) rfl dX2_init_11 e3 ?_
  refine tj_aload_n ok 0 dX2_init_14 rfl rfl ?_
  refine tj_lconst (v := 0) ok dX2_init_15 (by decide) ?_
  refine tj_putJ (k := 2) ok fcX2 (by decide) wm_146 rfl (Or.inl rfl) rfl dX2_init_16 e4 ?_
  refine tj_aload_n ok 0 dX2_init_19 rfl rfl ?_
  refine tj_iconst (v := 0) ok dX2_init_20 (by decide) ?_
  refine tj_putI (k := 3) ok fcX2 (by decide) wm_147 rfl (Or.inl rfl) rfl dX2_init_21 e5 ?_
  refine tj_aload_n ok 0 dX2_init_24 rfl rfl ?_
  refine tj_bipush (v := 8) ok dX2_init_25 (by decide) ?_
  refine tj_newI ok wm_39 dX2_init_27 e6 (CaX.of en (by omega)) ?_
  refine tj_putR (k := 4) ok fcX2 (by decide) wm_148 rfl (Or.inr ⟨nmx, rfl⟩) (Or.inr ⟨_, rfl⟩) dX2_init_29 e7 ?_
  refine tj_aload_n ok 0 dX2_init_32 rfl rfl ?_
  refine tj_iconst (v := 2) ok dX2_init_33 (by decide) ?_
  refine tj_newI ok wm_39 dX2_init_34 e8 (CaX.of en (by omega)) ?_
  refine tj_putR (k := 5) ok fcX2 (by decide) wm_149 rfl (Or.inr ⟨nmx, rfl⟩) (Or.inr ⟨_, rfl⟩) dX2_init_36 e9 ?_
  refine tj_aload_n ok 0 dX2_init_39 rfl rfl ?_
  refine tj_iconst (v := 4) ok dX2_init_40 (by decide) ?_
  refine tj_newI ok wm_39 dX2_init_41 e10 (CaX.of en (by omega)) ?_
  refine tj_putR (k := 6) ok fcX2 (by decide) wm_150 rfl (Or.inr ⟨nmx, rfl⟩) (Or.inr ⟨_, rfl⟩) dX2_init_43 e11 ?_
  refine tj_aload_n ok 0 dX2_init_46 rfl rfl ?_
  refine tj_new ok fcX0 wm_151 wm_152 wm_56 dX2_init_47 nfX0 ndX0 (CaX.of en (by omega)) ?_
  refine tj_dupa ok dX2_init_50 ?_
  refine tj_callN (rest := ([.inr (.inr (hp_n h11)), .inr (.inr (a0))] : List TV).map (vl g)) (as := []) (i := 5) ok lev (by omega) (of_if e13).1 (k14 g) (CaX.of en (by omega)) kn_X0_init rfl rfl wm_153 (rs_ok (Nat.le_of_ble_eq_true rfl)) rfl dX2_init_51 ?_
  refine tj_putR (k := 7) ok fcX2 (by decide) wm_154 rfl (Or.inl rfl) (Or.inl ⟨_, rfl⟩) dX2_init_54 e15 ?_
  refine tj_aload_n ok 0 dX2_init_57 rfl rfl ?_
  refine tj_iconst (v := 0) ok dX2_init_58 (by decide) ?_
  refine tj_putI (k := 8) ok fcX2 (by decide) wm_155 rfl (Or.inl rfl) rfl dX2_init_59 e16 ?_
  exact tj_return ok en dX2_init_62
def f_X2_init (a0 : Nat) (h : AH) : Option (AH) := b_X2_init_0  a0 h
theorem c_X2_init {a0 : Nat} {h hE : AH} (hf : f_X2_init a0 h = some hE) : ∀ g : GT, CM g (3) yX2_init cX2_init 1 none h [.inr (.inr (a0))] hE none :=
  CM.ofJ (by decide) (by show _ ≤ 1; exact Nat.le_of_ble_eq_true rfl) (q_X2_init_0 hf)
/-! ===== LitmusHouse$Machine.setLocal(IIZ)V ===== -/
def b_X2_setLocal_71  (h : AH) : Option (AH) :=
  some h
set_option maxHeartbeats 4000000 in
set_option maxRecDepth 100000 in
theorem q_X2_setLocal_71 {h hE : AH} (hf : b_X2_setLocal_71  h = some hE) : JD cX2_setLocal 5 RX2 "setLocal" none (2) 71 [] [] h hE none := by
  unfold b_X2_setLocal_71 at hf
  have hh := Option.some.inj hf
  subst hh
  have mE : hp_n h ≤ hp_n h ∧ hp_s h ≤ hp_s h := ⟨Nat.le_refl _, Nat.le_refl _⟩
  refine ⟨by omega, fun X g K ok nmx lev hK en => ?_⟩
  exact tj_return ok en dX2_setLocal_71
def b_X2_setLocal_56 (a0 : Nat) (a1 : Int32) (h : AH) : Option (AH) :=
  (g_j h a0 2 0).bind fun x1 => (p_j h a0 2 0 (x1 ||| ((1 : Int64) <<< (((42 : Int32) + a1).toInt64 &&& 63)))).bind fun h2 => b_X2_setLocal_71 h2
set_option maxHeartbeats 4000000 in
set_option maxRecDepth 100000 in
theorem q_X2_setLocal_56 {a0 : Nat} {a1 : Int32} {h hE : AH} (hf : b_X2_setLocal_56 a0 a1 h = some hE) : JD cX2_setLocal 5 RX2 "setLocal" none (2) 56 [(0, .inr (.inr (a0))), (1, .inl (a1))] [] h hE none := by
  unfold b_X2_setLocal_56 at hf
  obtain ⟨x1, e1, hf⟩ := bnd hf
  obtain ⟨h2, e2, hf⟩ := bnd hf
  have m2 := nn_pj e2
  have J := q_X2_setLocal_71 hf
  have mE := J.1
  refine ⟨by omega, fun X g K ok nmx lev hK en => ?_⟩
  refine tj_aload_n ok 0 dX2_setLocal_56 rfl rfl ?_
  refine tj_dupa ok dX2_setLocal_57 ?_
  refine tj_getJ (k := 0) ok fcX2 (by decide) wm_144 rfl rfl dX2_setLocal_58 e1 ?_
  refine tj_lconst (v := 1) ok dX2_setLocal_61 (by decide) ?_
  refine tj_bipush (v := 42) ok dX2_setLocal_62 (by decide) ?_
  refine tj_iload_n ok 1 dX2_setLocal_64 rfl rfl ?_
  refine tj_iadd ok dX2_setLocal_65 ?_
  refine tj_lshl ok dX2_setLocal_66 ?_
  refine tj_lor ok dX2_setLocal_67 ?_
  refine tj_putJ (k := 0) ok fcX2 (by decide) wm_144 rfl (Or.inl rfl) rfl dX2_setLocal_68 e2 ?_
  refine tj_sub (lv' := []) [] rfl ?_
  exact J.2 X g K ok nmx lev hK en
def b_X2_setLocal_0 (a0 : Nat) (a1 : Int32) (a2 : Int32) (a3 : Int32) (h : AH) : Option (AH) :=
  (g_j h a0 2 0).bind fun x1 => (p_j h a0 2 0 ((x1 &&& (((15 : Int64) <<< (((16 : Int32) + ((4 : Int32) * a1)).toInt64 &&& 63)) ^^^ (-1 : Int64))) ||| (a2.toInt64 <<< (((16 : Int32) + ((4 : Int32) * a1)).toInt64 &&& 63)))).bind fun h2 => (g_j h2 a0 2 0).bind fun x3 => (p_j h2 a0 2 0 (x3 &&& (((1 : Int64) <<< (((42 : Int32) + a1).toInt64 &&& 63)) ^^^ (-1 : Int64)))).bind fun h4 => if a3 = 0 then b_X2_setLocal_71 h4 else b_X2_setLocal_56 a0 a1 h4
set_option maxHeartbeats 4000000 in
set_option maxRecDepth 100000 in
theorem q_X2_setLocal_0 {a0 : Nat} {a1 : Int32} {a2 : Int32} {a3 : Int32} {h hE : AH} (hf : b_X2_setLocal_0 a0 a1 a2 a3 h = some hE) : JD cX2_setLocal 5 RX2 "setLocal" none (2) 0 [(0, .inr (.inr (a0))), (1, .inl (a1)), (2, .inl (a2)), (3, .inl (a3))] [] h hE none := by
  unfold b_X2_setLocal_0 at hf
  obtain ⟨x1, e1, hf⟩ := bnd hf
  obtain ⟨h2, e2, hf⟩ := bnd hf
  have m2 := nn_pj e2
  obtain ⟨x3, e3, hf⟩ := bnd hf
  obtain ⟨h4, e4, hf⟩ := bnd hf
  have m4 := nn_pj e4
  have mE : hp_n h4 ≤ hp_n hE ∧ hp_s h4 ≤ hp_s hE := by
    by_cases hc : a3 = 0
    · rw [if_pos hc] at hf; exact (q_X2_setLocal_71 hf).1
    · rw [if_neg hc] at hf; exact (q_X2_setLocal_56 hf).1
  refine ⟨by omega, fun X g K ok nmx lev hK en => ?_⟩
  refine tj_bipush (v := 16) ok dX2_setLocal_0 (by decide) ?_
  refine tj_iconst (v := 4) ok dX2_setLocal_2 (by decide) ?_
  refine tj_iload_n ok 1 dX2_setLocal_3 rfl rfl ?_
  refine tj_imul ok dX2_setLocal_4 ?_
  refine tj_iadd ok dX2_setLocal_5 ?_
  refine tj_istore (lv' := [(0, .inr (.inr (a0))), (1, .inl (a1)), (2, .inl (a2)), (3, .inl (a3)), (4, .inl ((16 : Int32) + ((4 : Int32) * a1)))]) ok dX2_setLocal_6 (by decide) rfl ?_
  refine tj_aload_n ok 0 dX2_setLocal_8 rfl rfl ?_
  refine tj_aload_n ok 0 dX2_setLocal_9 rfl rfl ?_
  refine tj_getJ (k := 0) ok fcX2 (by decide) wm_144 rfl rfl dX2_setLocal_10 e1 ?_
  refine tj_ldc2 (v := 15) ok dX2_setLocal_13 wm_238 ?_
  refine tj_iload ok 4 dX2_setLocal_16 rfl ?_
  refine tj_lshl ok dX2_setLocal_18 ?_
  refine tj_ldc2 (v := -1) ok dX2_setLocal_19 wm_239 ?_
  refine tj_lxor ok dX2_setLocal_22 ?_
  refine tj_land ok dX2_setLocal_23 ?_
  refine tj_iload_n ok 2 dX2_setLocal_24 rfl rfl ?_
  refine tj_i2l ok dX2_setLocal_25 ?_
  refine tj_iload ok 4 dX2_setLocal_26 rfl ?_
  refine tj_lshl ok dX2_setLocal_28 ?_
  refine tj_lor ok dX2_setLocal_29 ?_
  refine tj_putJ (k := 0) ok fcX2 (by decide) wm_144 rfl (Or.inl rfl) rfl dX2_setLocal_30 e2 ?_
  refine tj_aload_n ok 0 dX2_setLocal_33 rfl rfl ?_
  refine tj_dupa ok dX2_setLocal_34 ?_
  refine tj_getJ (k := 0) ok fcX2 (by decide) wm_144 rfl rfl dX2_setLocal_35 e3 ?_
  refine tj_lconst (v := 1) ok dX2_setLocal_38 (by decide) ?_
  refine tj_bipush (v := 42) ok dX2_setLocal_39 (by decide) ?_
  refine tj_iload_n ok 1 dX2_setLocal_41 rfl rfl ?_
  refine tj_iadd ok dX2_setLocal_42 ?_
  refine tj_lshl ok dX2_setLocal_43 ?_
  refine tj_ldc2 (v := -1) ok dX2_setLocal_44 wm_239 ?_
  refine tj_lxor ok dX2_setLocal_47 ?_
  refine tj_land ok dX2_setLocal_48 ?_
  refine tj_putJ (k := 0) ok fcX2 (by decide) wm_144 rfl (Or.inl rfl) rfl dX2_setLocal_49 e4 ?_
  refine tj_iload_n ok 3 dX2_setLocal_52 rfl rfl ?_
  refine tj_if_eq (tgt := 71) ok dX2_setLocal_53 (by decide) (fun hc => ?_) (fun hc => ?_)
  · rw [if_pos hc] at hf
    refine tj_sub (lv' := []) [] rfl ?_
    exact (q_X2_setLocal_71 hf).2 X g K ok nmx lev hK en
  · rw [if_neg hc] at hf
    refine tj_sub (lv' := [(0, .inr (.inr (a0))), (1, .inl (a1))]) [0, 1] rfl ?_
    exact (q_X2_setLocal_56 hf).2 X g K ok nmx lev hK en
def f_X2_setLocal (a0 : Nat) (a1 : Int32) (a2 : Int32) (a3 : Int32) (h : AH) : Option (AH) := b_X2_setLocal_0  a0 a1 a2 a3 h
theorem c_X2_setLocal {a0 : Nat} {a1 : Int32} {a2 : Int32} {a3 : Int32} {h hE : AH} (hf : f_X2_setLocal a0 a1 a2 a3 h = some hE) : ∀ g : GT, CM g (2) yX2_setLocal cX2_setLocal 5 none h [.inr (.inr (a0)), .inl (a1), .inl (a2), .inl (a3)] hE none :=
  CM.ofJ (by decide) (by show _ ≤ 5; exact Nat.le_of_ble_eq_true rfl) (q_X2_setLocal_0 hf)
/-! ===== LitmusHouse$Machine.sumAt(I)I ===== -/
def b_X2_sumAt_63 (a4 : Int32) (h : AH) : Option (Int32 × AH) :=
  (rm_i a4 (10 : Int32)).bind fun x1 => some (x1, h)
set_option maxHeartbeats 4000000 in
set_option maxRecDepth 100000 in
theorem q_X2_sumAt_63 {a4 : Int32} {h hE : AH} {v : Int32} (hf : b_X2_sumAt_63 a4 h = some (v, hE)) : JD cX2_sumAt 5 RX2 "sumAt" (some .int) (2) 63 [(4, .inl (a4))] [] h hE (some (.inl (v))) := by
  unfold b_X2_sumAt_63 at hf
  obtain ⟨x1, e1, hf⟩ := bnd hf
  obtain ⟨hv, hh⟩ := Prod.mk.inj (Option.some.inj hf)
  subst hv
  subst hh
  have mE : hp_n h ≤ hp_n h ∧ hp_s h ≤ hp_s h := ⟨Nat.le_refl _, Nat.le_refl _⟩
  refine ⟨by omega, fun X g K ok nmx lev hK en => ?_⟩
  refine tj_iload ok 0 dX2_sumAt_63 rfl ?_
  refine tj_bipush (v := 10) ok dX2_sumAt_65 (by decide) ?_
  refine tj_irem ok dX2_sumAt_67 e1 ?_
  exact tj_ireturn ok en dX2_sumAt_68
def b_X2_sumAt_43 (a0 : Nat) (a2 : Int32) (a4 : Int32) (h : AH) : Option (Int32 × AH) :=
  (g_j h a0 2 0).bind fun x1 => b_X2_sumAt_63 (a4 + (((us_j x1 ((16 : Int32) + ((4 : Int32) * a2))).toInt32) &&& (15 : Int32))) h
set_option maxHeartbeats 4000000 in
set_option maxRecDepth 100000 in
theorem q_X2_sumAt_43 {a0 : Nat} {a2 : Int32} {a4 : Int32} {h hE : AH} {v : Int32} (hf : b_X2_sumAt_43 a0 a2 a4 h = some (v, hE)) : JD cX2_sumAt 5 RX2 "sumAt" (some .int) (2) 43 [(0, .inr (.inr (a0))), (2, .inl (a2)), (4, .inl (a4))] [] h hE (some (.inl (v))) := by
  unfold b_X2_sumAt_43 at hf
  obtain ⟨x1, e1, hf⟩ := bnd hf
  have J := q_X2_sumAt_63 hf
  have mE := J.1
  refine ⟨by omega, fun X g K ok nmx lev hK en => ?_⟩
  refine tj_iload ok 2 dX2_sumAt_43 rfl ?_
  refine tj_aload_n ok 0 dX2_sumAt_45 rfl rfl ?_
  refine tj_getJ (k := 0) ok fcX2 (by decide) wm_144 rfl rfl dX2_sumAt_46 e1 ?_
  refine tj_bipush (v := 16) ok dX2_sumAt_49 (by decide) ?_
  refine tj_iconst (v := 4) ok dX2_sumAt_51 (by decide) ?_
  refine tj_iload_n ok 1 dX2_sumAt_52 rfl rfl ?_
  refine tj_imul ok dX2_sumAt_53 ?_
  refine tj_iadd ok dX2_sumAt_54 ?_
  refine tj_lushr ok dX2_sumAt_55 ?_
  refine tj_l2i ok dX2_sumAt_56 ?_
  refine tj_bipush (v := 15) ok dX2_sumAt_57 (by decide) ?_
  refine tj_iand ok dX2_sumAt_59 ?_
  refine tj_iadd ok dX2_sumAt_60 ?_
  refine tj_istore (lv' := [(0, .inr (.inr (a0))), (2, .inl (a2)), (4, .inl (a4 + (((us_j x1 ((16 : Int32) + ((4 : Int32) * a2))).toInt32) &&& (15 : Int32))))]) ok dX2_sumAt_61 (by decide) rfl ?_
  refine tj_sub (lv' := [(4, .inl (a4 + (((us_j x1 ((16 : Int32) + ((4 : Int32) * a2))).toInt32) &&& (15 : Int32))))]) [2] rfl ?_
  exact J.2 X g K ok nmx lev hK en
def b_X2_sumAt_36 (a0 : Nat) (a2 : Int32) (s0 : Int32) (h : AH) : Option (Int32 × AH) :=
  if a2 = (-1 : Int32) then b_X2_sumAt_63 s0 h else b_X2_sumAt_43 a0 a2 s0 h
set_option maxHeartbeats 4000000 in
set_option maxRecDepth 100000 in
theorem q_X2_sumAt_36 {a0 : Nat} {a2 : Int32} {s0 : Int32} {h hE : AH} {v : Int32} (hf : b_X2_sumAt_36 a0 a2 s0 h = some (v, hE)) : JD cX2_sumAt 5 RX2 "sumAt" (some .int) (2) 36 [(0, .inr (.inr (a0))), (2, .inl (a2))] [.inl (s0)] h hE (some (.inl (v))) := by
  unfold b_X2_sumAt_36 at hf
  have mE : hp_n h ≤ hp_n hE ∧ hp_s h ≤ hp_s hE := by
    by_cases hc : a2 = (-1 : Int32)
    · rw [if_pos hc] at hf; exact (q_X2_sumAt_63 hf).1
    · rw [if_neg hc] at hf; exact (q_X2_sumAt_43 hf).1
  refine ⟨by omega, fun X g K ok nmx lev hK en => ?_⟩
  refine tj_istore (lv' := [(0, .inr (.inr (a0))), (2, .inl (a2)), (4, .inl (s0))]) ok dX2_sumAt_36 (by decide) rfl ?_
  refine tj_iload_n ok 1 dX2_sumAt_38 rfl rfl ?_
  refine tj_iconst (v := -1) ok dX2_sumAt_39 (by decide) ?_
  refine tj_icmp_eq (tgt := 63) ok dX2_sumAt_40 (by decide) (fun hc => ?_) (fun hc => ?_)
  · rw [if_pos hc] at hf
    refine tj_sub (lv' := [(4, .inl (s0))]) [2] rfl ?_
    exact (q_X2_sumAt_63 hf).2 X g K ok nmx lev hK en
  · rw [if_neg hc] at hf
    exact (q_X2_sumAt_43 hf).2 X g K ok nmx lev hK en
def b_X2_sumAt_35 (a0 : Nat) (a2 : Int32) (a3 : Int32) (h : AH) : Option (Int32 × AH) :=
  b_X2_sumAt_36 a0 a2 a3 h
set_option maxHeartbeats 4000000 in
set_option maxRecDepth 100000 in
theorem q_X2_sumAt_35 {a0 : Nat} {a2 : Int32} {a3 : Int32} {h hE : AH} {v : Int32} (hf : b_X2_sumAt_35 a0 a2 a3 h = some (v, hE)) : JD cX2_sumAt 5 RX2 "sumAt" (some .int) (2) 35 [(0, .inr (.inr (a0))), (2, .inl (a2)), (3, .inl (a3))] [] h hE (some (.inl (v))) := by
  unfold b_X2_sumAt_35 at hf
  have J := q_X2_sumAt_36 hf
  have mE := J.1
  refine ⟨by omega, fun X g K ok nmx lev hK en => ?_⟩
  refine tj_iload_n ok 2 dX2_sumAt_35 rfl rfl ?_
  refine tj_sub (lv' := [(0, .inr (.inr (a0))), (2, .inl (a2))]) [0, 1] rfl ?_
  exact J.2 X g K ok nmx lev hK en
def b_X2_sumAt_31 (a0 : Nat) (a2 : Int32) (h : AH) : Option (Int32 × AH) :=
  b_X2_sumAt_36 a0 a2 (0 : Int32) h
set_option maxHeartbeats 4000000 in
set_option maxRecDepth 100000 in
theorem q_X2_sumAt_31 {a0 : Nat} {a2 : Int32} {h hE : AH} {v : Int32} (hf : b_X2_sumAt_31 a0 a2 h = some (v, hE)) : JD cX2_sumAt 5 RX2 "sumAt" (some .int) (2) 31 [(0, .inr (.inr (a0))), (2, .inl (a2))] [] h hE (some (.inl (v))) := by
  unfold b_X2_sumAt_31 at hf
  have J := q_X2_sumAt_36 hf
  have mE := J.1
  refine ⟨by omega, fun X g K ok nmx lev hK en => ?_⟩
  refine tj_iconst (v := 0) ok dX2_sumAt_31 (by decide) ?_
  refine tj_goto (tgt := 36) ok dX2_sumAt_32 (by decide) ?_
  exact J.2 X g K ok nmx lev hK en
def b_X2_sumAt_0 (a0 : Nat) (a1 : Int32) (h : AH) : Option (Int32 × AH) :=
  (g_r h a0 2 7).bind fun x1 => (g_r h x1 0 2).bind fun x2 => (l_i h x2 (a1 &&& (63 : Int32))).bind fun x3 => (g_r h a0 2 7).bind fun x4 => (g_r h x4 0 3).bind fun x5 => (l_i h x5 (a1 &&& (63 : Int32))).bind fun x6 => if x6 = (-1 : Int32) then b_X2_sumAt_31 a0 x3 h else b_X2_sumAt_35 a0 x3 x6 h
set_option maxHeartbeats 4000000 in
set_option maxRecDepth 100000 in
theorem q_X2_sumAt_0 {a0 : Nat} {a1 : Int32} {h hE : AH} {v : Int32} (hf : b_X2_sumAt_0 a0 a1 h = some (v, hE)) : JD cX2_sumAt 5 RX2 "sumAt" (some .int) (2) 0 [(0, .inr (.inr (a0))), (1, .inl (a1))] [] h hE (some (.inl (v))) := by
  unfold b_X2_sumAt_0 at hf
  obtain ⟨x1, e1, hf⟩ := bnd hf
  obtain ⟨x2, e2, hf⟩ := bnd hf
  obtain ⟨x3, e3, hf⟩ := bnd hf
  obtain ⟨x4, e4, hf⟩ := bnd hf
  obtain ⟨x5, e5, hf⟩ := bnd hf
  obtain ⟨x6, e6, hf⟩ := bnd hf
  have mE : hp_n h ≤ hp_n hE ∧ hp_s h ≤ hp_s hE := by
    by_cases hc : x6 = (-1 : Int32)
    · rw [if_pos hc] at hf; exact (q_X2_sumAt_31 hf).1
    · rw [if_neg hc] at hf; exact (q_X2_sumAt_35 hf).1
  refine ⟨by omega, fun X g K ok nmx lev hK en => ?_⟩
  refine tj_aload_n ok 0 dX2_sumAt_0 rfl rfl ?_
  refine tj_getR (k := 7) ok fcX2 (by decide) wm_154 rfl (Or.inl ⟨_, rfl⟩) dX2_sumAt_1 e1 ?_
  refine tj_getR (k := 2) ok fcX0 (by decide) wm_241 rfl (Or.inr ⟨_, rfl⟩) dX2_sumAt_4 e2 ?_
  refine tj_iload_n ok 1 dX2_sumAt_7 rfl rfl ?_
  refine tj_bipush (v := 63) ok dX2_sumAt_8 (by decide) ?_
  refine tj_iand ok dX2_sumAt_10 ?_
  refine tj_iaload ok dX2_sumAt_11 e3 ?_
  refine tj_istore_n (lv' := [(0, .inr (.inr (a0))), (1, .inl (a1)), (2, .inl (x3))]) ok dX2_sumAt_12 rfl (by decide) rfl ?_
  refine tj_aload_n ok 0 dX2_sumAt_13 rfl rfl ?_
  refine tj_getR (k := 7) ok fcX2 (by decide) wm_154 rfl (Or.inl ⟨_, rfl⟩) dX2_sumAt_14 e4 ?_
  refine tj_getR (k := 3) ok fcX0 (by decide) wm_242 rfl (Or.inr ⟨_, rfl⟩) dX2_sumAt_17 e5 ?_
  refine tj_iload_n ok 1 dX2_sumAt_20 rfl rfl ?_
  refine tj_bipush (v := 63) ok dX2_sumAt_21 (by decide) ?_
  refine tj_iand ok dX2_sumAt_23 ?_
  refine tj_iaload ok dX2_sumAt_24 e6 ?_
  refine tj_istore_n (lv' := [(0, .inr (.inr (a0))), (1, .inl (a1)), (2, .inl (x3)), (3, .inl (x6))]) ok dX2_sumAt_25 rfl (by decide) rfl ?_
  refine tj_iload_n ok 3 dX2_sumAt_26 rfl rfl ?_
  refine tj_iconst (v := -1) ok dX2_sumAt_27 (by decide) ?_
  refine tj_icmp_ne (tgt := 35) ok dX2_sumAt_28 (by decide) (fun hc => ?_) (fun hc => ?_)
  · rw [if_neg hc] at hf
    refine tj_sub (lv' := [(0, .inr (.inr (a0))), (2, .inl (x3)), (3, .inl (x6))]) [0, 2, 3] rfl ?_
    exact (q_X2_sumAt_35 hf).2 X g K ok nmx lev hK en
  · rw [if_pos hc] at hf
    refine tj_sub (lv' := [(0, .inr (.inr (a0))), (2, .inl (x3))]) [0, 2] rfl ?_
    exact (q_X2_sumAt_31 hf).2 X g K ok nmx lev hK en
def f_X2_sumAt (a0 : Nat) (a1 : Int32) (h : AH) : Option (Int32 × AH) := b_X2_sumAt_0  a0 a1 h
theorem c_X2_sumAt {a0 : Nat} {a1 : Int32} {h hE : AH} {v : Int32} (hf : f_X2_sumAt a0 a1 h = some (v, hE)) : ∀ g : GT, CM g (2) yX2_sumAt cX2_sumAt 5 (some .int) h [.inr (.inr (a0)), .inl (a1)] hE (some (.inl (v))) :=
  CM.ofJ (by decide) (by show _ ≤ 5; exact Nat.le_of_ble_eq_true rfl) (q_X2_sumAt_0 hf)
/-! ===== LitmusHouse$Machine.valueOf(I)I ===== -/
def b_X2_valueOf_0 (a0 : Nat) (a1 : Int32) (h : AH) : Option (Int32 × AH) :=
  (g_j h a0 2 0).bind fun x1 => some (((us_j x1 ((16 : Int32) + ((4 : Int32) * a1))).toInt32) &&& (15 : Int32), h)
set_option maxHeartbeats 4000000 in
set_option maxRecDepth 100000 in
theorem q_X2_valueOf_0 {a0 : Nat} {a1 : Int32} {h hE : AH} {v : Int32} (hf : b_X2_valueOf_0 a0 a1 h = some (v, hE)) : JD cX2_valueOf 2 RX2 "valueOf" (some .int) (2) 0 [(0, .inr (.inr (a0))), (1, .inl (a1))] [] h hE (some (.inl (v))) := by
  unfold b_X2_valueOf_0 at hf
  obtain ⟨x1, e1, hf⟩ := bnd hf
  obtain ⟨hv, hh⟩ := Prod.mk.inj (Option.some.inj hf)
  subst hv
  subst hh
  have mE : hp_n h ≤ hp_n h ∧ hp_s h ≤ hp_s h := ⟨Nat.le_refl _, Nat.le_refl _⟩
  refine ⟨by omega, fun X g K ok nmx lev hK en => ?_⟩
  refine tj_aload_n ok 0 dX2_valueOf_0 rfl rfl ?_
  refine tj_getJ (k := 0) ok fcX2 (by decide) wm_144 rfl rfl dX2_valueOf_1 e1 ?_
  refine tj_bipush (v := 16) ok dX2_valueOf_4 (by decide) ?_
  refine tj_iconst (v := 4) ok dX2_valueOf_6 (by decide) ?_
  refine tj_iload_n ok 1 dX2_valueOf_7 rfl rfl ?_
  refine tj_imul ok dX2_valueOf_8 ?_
  refine tj_iadd ok dX2_valueOf_9 ?_
  refine tj_lushr ok dX2_valueOf_10 ?_
  refine tj_l2i ok dX2_valueOf_11 ?_
  refine tj_bipush (v := 15) ok dX2_valueOf_12 (by decide) ?_
  refine tj_iand ok dX2_valueOf_14 ?_
  exact tj_ireturn ok en dX2_valueOf_15
def f_X2_valueOf (a0 : Nat) (a1 : Int32) (h : AH) : Option (Int32 × AH) := b_X2_valueOf_0  a0 a1 h
theorem c_X2_valueOf {a0 : Nat} {a1 : Int32} {h hE : AH} {v : Int32} (hf : f_X2_valueOf a0 a1 h = some (v, hE)) : ∀ g : GT, CM g (2) yX2_valueOf cX2_valueOf 2 (some .int) h [.inr (.inr (a0)), .inl (a1)] hE (some (.inl (v))) :=
  CM.ofJ (by decide) (by show _ ≤ 2; exact Nat.le_of_ble_eq_true rfl) (q_X2_valueOf_0 hf)
/-! ===== LitmusHouse$Machine.goOn(II)V ===== -/
def b_X2_goOn_183 (a0 : Nat) (a1 : Int32) (a4 : Int32) (h : AH) : Option (AH) :=
  (g_j h a0 2 0).bind fun x1 => (p_j h a0 2 0 ((x1 &&& (((15 : Int64) <<< (((4 : Int32) * a1).toInt64 &&& 63)) ^^^ (-1 : Int64))) ||| (a4.toInt64 <<< (((4 : Int32) * a1).toInt64 &&& 63)))).bind fun h2 => some h2
set_option maxHeartbeats 4000000 in
set_option maxRecDepth 100000 in
theorem q_X2_goOn_183 {a0 : Nat} {a1 : Int32} {a4 : Int32} {h hE : AH} (hf : b_X2_goOn_183 a0 a1 a4 h = some hE) : JD cX2_goOn 7 RX2 "goOn" none (3) 183 [(0, .inr (.inr (a0))), (1, .inl (a1)), (4, .inl (a4))] [] h hE none := by
  unfold b_X2_goOn_183 at hf
  obtain ⟨x1, e1, hf⟩ := bnd hf
  obtain ⟨h2, e2, hf⟩ := bnd hf
  have m2 := nn_pj e2
  have hh := Option.some.inj hf
  subst hh
  have mE : hp_n h2 ≤ hp_n h2 ∧ hp_s h2 ≤ hp_s h2 := ⟨Nat.le_refl _, Nat.le_refl _⟩
  refine ⟨by omega, fun X g K ok nmx lev hK en => ?_⟩
  refine tj_aload_n ok 0 dX2_goOn_183 rfl rfl ?_
  refine tj_aload_n ok 0 dX2_goOn_184 rfl rfl ?_
  refine tj_getJ (k := 0) ok fcX2 (by decide) wm_144 rfl rfl dX2_goOn_185 e1 ?_
  refine tj_ldc2 (v := 15) ok dX2_goOn_188 wm_238 ?_
  refine tj_iconst (v := 4) ok dX2_goOn_191 (by decide) ?_
  refine tj_iload_n ok 1 dX2_goOn_192 rfl rfl ?_
  refine tj_imul ok dX2_goOn_193 ?_
  refine tj_lshl ok dX2_goOn_194 ?_
  refine tj_ldc2 (v := -1) ok dX2_goOn_195 wm_239 ?_
  refine tj_lxor ok dX2_goOn_198 ?_
  refine tj_land ok dX2_goOn_199 ?_
  refine tj_iload ok 2 dX2_goOn_200 rfl ?_
  refine tj_i2l ok dX2_goOn_202 ?_
  refine tj_iconst (v := 4) ok dX2_goOn_203 (by decide) ?_
  refine tj_iload_n ok 1 dX2_goOn_204 rfl rfl ?_
  refine tj_imul ok dX2_goOn_205 ?_
  refine tj_lshl ok dX2_goOn_206 ?_
  refine tj_lor ok dX2_goOn_207 ?_
  refine tj_putJ (k := 0) ok fcX2 (by decide) wm_144 rfl (Or.inl rfl) rfl dX2_goOn_208 e2 ?_
  exact tj_return ok en dX2_goOn_211
def b_X2_goOn_173 (r12 : Nat → Int32 → Int32 → Int32 → Int32 → AH → Option (AH)) (a0 : Nat) (a1 : Int32) (a4 : Int32) (a5 : Int32) (s0 : Int32) (h : AH) : Option (AH) :=
  r12 a0 a1 (s0 &&& (63 : Int32)) a4 (a5 + (1 : Int32)) h
set_option maxHeartbeats 4000000 in
set_option maxRecDepth 100000 in
theorem q_X2_goOn_173 {hE : AH} {r12 : Nat → Int32 → Int32 → Int32 → Int32 → AH → Option (AH)} (hr12 : ∀ (b0 : Nat) (b1 : Int32) (b3 : Int32) (b4 : Int32) (b5 : Int32) (h : AH), r12 b0 b1 b3 b4 b5 h = some hE → JD cX2_goOn 7 RX2 "goOn" none (3) 12 [(0, .inr (.inr (b0))), (1, .inl (b1)), (3, .inl (b3)), (4, .inl (b4)), (5, .inl (b5))] [] h hE none) {a0 : Nat} {a1 : Int32} {a4 : Int32} {a5 : Int32} {s0 : Int32} {h : AH} (hf : b_X2_goOn_173 r12 a0 a1 a4 a5 s0 h = some hE) : JD cX2_goOn 7 RX2 "goOn" none (3) 173 [(0, .inr (.inr (a0))), (1, .inl (a1)), (4, .inl (a4)), (5, .inl (a5))] [.inl (s0)] h hE none := by
  unfold b_X2_goOn_173 at hf
  have J := hr12 _ _ _ _ _ _ hf
  have mE := J.1
  refine ⟨by omega, fun X g K ok nmx lev hK en => ?_⟩
  refine tj_bipush (v := 63) ok dX2_goOn_173 (by decide) ?_
  refine tj_iand ok dX2_goOn_175 ?_
  refine tj_istore_n (lv' := [(0, .inr (.inr (a0))), (1, .inl (a1)), (3, .inl (s0 &&& (63 : Int32))), (4, .inl (a4)), (5, .inl (a5))]) ok dX2_goOn_176 rfl (by decide) rfl ?_
  refine tj_iinc (lv' := [(0, .inr (.inr (a0))), (1, .inl (a1)), (3, .inl (s0 &&& (63 : Int32))), (4, .inl (a4)), (5, .inl (a5 + (1 : Int32)))]) ok 4 dX2_goOn_177 rfl (rfl) (by decide) rfl ?_
  refine tj_goto (tgt := 12) ok dX2_goOn_180 (by decide) ?_
  exact J.2 X g K ok nmx lev hK en
def b_X2_goOn_170 (r12 : Nat → Int32 → Int32 → Int32 → Int32 → AH → Option (AH)) (a0 : Nat) (a1 : Int32) (a3 : Int32) (a4 : Int32) (a5 : Int32) (h : AH) : Option (AH) :=
  b_X2_goOn_173 r12 a0 a1 a4 a5 (a3 + (1 : Int32)) h
set_option maxHeartbeats 4000000 in
set_option maxRecDepth 100000 in
theorem q_X2_goOn_170 {hE : AH} {r12 : Nat → Int32 → Int32 → Int32 → Int32 → AH → Option (AH)} (hr12 : ∀ (b0 : Nat) (b1 : Int32) (b3 : Int32) (b4 : Int32) (b5 : Int32) (h : AH), r12 b0 b1 b3 b4 b5 h = some hE → JD cX2_goOn 7 RX2 "goOn" none (3) 12 [(0, .inr (.inr (b0))), (1, .inl (b1)), (3, .inl (b3)), (4, .inl (b4)), (5, .inl (b5))] [] h hE none) {a0 : Nat} {a1 : Int32} {a3 : Int32} {a4 : Int32} {a5 : Int32} {h : AH} (hf : b_X2_goOn_170 r12 a0 a1 a3 a4 a5 h = some hE) : JD cX2_goOn 7 RX2 "goOn" none (3) 170 [(0, .inr (.inr (a0))), (1, .inl (a1)), (3, .inl (a3)), (4, .inl (a4)), (5, .inl (a5))] [] h hE none := by
  unfold b_X2_goOn_170 at hf
  have J := q_X2_goOn_173 hr12 hf
  have mE := J.1
  refine ⟨by omega, fun X g K ok nmx lev hK en => ?_⟩
  refine tj_iload_n ok 2 dX2_goOn_170 rfl rfl ?_
  refine tj_iconst (v := 1) ok dX2_goOn_171 (by decide) ?_
  refine tj_iadd ok dX2_goOn_172 ?_
  refine tj_sub (lv' := [(0, .inr (.inr (a0))), (1, .inl (a1)), (4, .inl (a4)), (5, .inl (a5))]) [0, 1, 3, 4] rfl ?_
  exact J.2 X g K ok nmx lev hK en
def b_X2_goOn_158 (r12 : Nat → Int32 → Int32 → Int32 → Int32 → AH → Option (AH)) (a0 : Nat) (a1 : Int32) (a3 : Int32) (a4 : Int32) (a5 : Int32) (h : AH) : Option (AH) :=
  (g_r h a0 2 7).bind fun x1 => (g_r h x1 0 5).bind fun x2 => (l_i h x2 a3).bind fun x3 => b_X2_goOn_173 r12 a0 a1 a4 a5 x3 h
set_option maxHeartbeats 4000000 in
set_option maxRecDepth 100000 in
theorem q_X2_goOn_158 {hE : AH} {r12 : Nat → Int32 → Int32 → Int32 → Int32 → AH → Option (AH)} (hr12 : ∀ (b0 : Nat) (b1 : Int32) (b3 : Int32) (b4 : Int32) (b5 : Int32) (h : AH), r12 b0 b1 b3 b4 b5 h = some hE → JD cX2_goOn 7 RX2 "goOn" none (3) 12 [(0, .inr (.inr (b0))), (1, .inl (b1)), (3, .inl (b3)), (4, .inl (b4)), (5, .inl (b5))] [] h hE none) {a0 : Nat} {a1 : Int32} {a3 : Int32} {a4 : Int32} {a5 : Int32} {h : AH} (hf : b_X2_goOn_158 r12 a0 a1 a3 a4 a5 h = some hE) : JD cX2_goOn 7 RX2 "goOn" none (3) 158 [(0, .inr (.inr (a0))), (1, .inl (a1)), (3, .inl (a3)), (4, .inl (a4)), (5, .inl (a5))] [] h hE none := by
  unfold b_X2_goOn_158 at hf
  obtain ⟨x1, e1, hf⟩ := bnd hf
  obtain ⟨x2, e2, hf⟩ := bnd hf
  obtain ⟨x3, e3, hf⟩ := bnd hf
  have J := q_X2_goOn_173 hr12 hf
  have mE := J.1
  refine ⟨by omega, fun X g K ok nmx lev hK en => ?_⟩
  refine tj_aload_n ok 0 dX2_goOn_158 rfl rfl ?_
  refine tj_getR (k := 7) ok fcX2 (by decide) wm_154 rfl (Or.inl ⟨_, rfl⟩) dX2_goOn_159 e1 ?_
  refine tj_getR (k := 5) ok fcX0 (by decide) wm_245 rfl (Or.inr ⟨_, rfl⟩) dX2_goOn_162 e2 ?_
  refine tj_iload_n ok 2 dX2_goOn_165 rfl rfl ?_
  refine tj_iaload ok dX2_goOn_166 e3 ?_
  refine tj_goto (tgt := 173) ok dX2_goOn_167 (by decide) ?_
  refine tj_sub (lv' := [(0, .inr (.inr (a0))), (1, .inl (a1)), (4, .inl (a4)), (5, .inl (a5))]) [0, 1, 3, 4] rfl ?_
  exact J.2 X g K ok nmx lev hK en
def b_X2_goOn_153 (r12 : Nat → Int32 → Int32 → Int32 → Int32 → AH → Option (AH)) (a0 : Nat) (a1 : Int32) (a3 : Int32) (a4 : Int32) (a5 : Int32) (a6 : Int32) (h : AH) : Option (AH) :=
  if a6 = 0 then b_X2_goOn_170 r12 a0 a1 a3 a4 a5 h else b_X2_goOn_158 r12 a0 a1 a3 a4 a5 h
set_option maxHeartbeats 4000000 in
set_option maxRecDepth 100000 in
theorem q_X2_goOn_153 {hE : AH} {r12 : Nat → Int32 → Int32 → Int32 → Int32 → AH → Option (AH)} (hr12 : ∀ (b0 : Nat) (b1 : Int32) (b3 : Int32) (b4 : Int32) (b5 : Int32) (h : AH), r12 b0 b1 b3 b4 b5 h = some hE → JD cX2_goOn 7 RX2 "goOn" none (3) 12 [(0, .inr (.inr (b0))), (1, .inl (b1)), (3, .inl (b3)), (4, .inl (b4)), (5, .inl (b5))] [] h hE none) {a0 : Nat} {a1 : Int32} {a3 : Int32} {a4 : Int32} {a5 : Int32} {a6 : Int32} {h : AH} (hf : b_X2_goOn_153 r12 a0 a1 a3 a4 a5 a6 h = some hE) : JD cX2_goOn 7 RX2 "goOn" none (3) 153 [(0, .inr (.inr (a0))), (1, .inl (a1)), (3, .inl (a3)), (4, .inl (a4)), (5, .inl (a5)), (6, .inl (a6))] [] h hE none := by
  unfold b_X2_goOn_153 at hf
  have mE : hp_n h ≤ hp_n hE ∧ hp_s h ≤ hp_s hE := by
    by_cases hc : a6 = 0
    · rw [if_pos hc] at hf; exact (q_X2_goOn_170 hr12 hf).1
    · rw [if_neg hc] at hf; exact (q_X2_goOn_158 hr12 hf).1
  refine ⟨by omega, fun X g K ok nmx lev hK en => ?_⟩
  refine tj_iload ok 5 dX2_goOn_153 rfl ?_
  refine tj_if_eq (tgt := 170) ok dX2_goOn_155 (by decide) (fun hc => ?_) (fun hc => ?_)
  · rw [if_pos hc] at hf
    refine tj_sub (lv' := [(0, .inr (.inr (a0))), (1, .inl (a1)), (3, .inl (a3)), (4, .inl (a4)), (5, .inl (a5))]) [0, 1, 2, 3, 4] rfl ?_
    exact (q_X2_goOn_170 hr12 hf).2 X g K ok nmx lev hK en
  · rw [if_neg hc] at hf
    refine tj_sub (lv' := [(0, .inr (.inr (a0))), (1, .inl (a1)), (3, .inl (a3)), (4, .inl (a4)), (5, .inl (a5))]) [0, 1, 2, 3, 4] rfl ?_
    exact (q_X2_goOn_158 hr12 hf).2 X g K ok nmx lev hK en
def b_X2_goOn_134 (r12 : Nat → Int32 → Int32 → Int32 → Int32 → AH → Option (AH)) (a0 : Nat) (a1 : Int32) (a3 : Int32) (a4 : Int32) (a5 : Int32) (a6 : Int32) (h : AH) : Option (AH) :=
  (g_r h a0 2 7).bind fun x1 => (g_r h x1 0 1).bind fun x2 => (l_i h x2 a3).bind fun x3 => (ok_v h a0 2).bind fun x4 => (f_X2_sumAt a0 a3 h).bind fun q5 => (ok_v q5.2 a0 2).bind fun x6 => (f_X2_setLocal a0 x3 q5.1 (0 : Int32) q5.2).bind fun h7 => b_X2_goOn_153 r12 a0 a1 a3 a4 a5 a6 h7
set_option maxHeartbeats 4000000 in
set_option maxRecDepth 100000 in
theorem q_X2_goOn_134 {hE : AH} {r12 : Nat → Int32 → Int32 → Int32 → Int32 → AH → Option (AH)} (hr12 : ∀ (b0 : Nat) (b1 : Int32) (b3 : Int32) (b4 : Int32) (b5 : Int32) (h : AH), r12 b0 b1 b3 b4 b5 h = some hE → JD cX2_goOn 7 RX2 "goOn" none (3) 12 [(0, .inr (.inr (b0))), (1, .inl (b1)), (3, .inl (b3)), (4, .inl (b4)), (5, .inl (b5))] [] h hE none) {a0 : Nat} {a1 : Int32} {a3 : Int32} {a4 : Int32} {a5 : Int32} {a6 : Int32} {h : AH} (hf : b_X2_goOn_134 r12 a0 a1 a3 a4 a5 a6 h = some hE) : JD cX2_goOn 7 RX2 "goOn" none (3) 134 [(0, .inr (.inr (a0))), (1, .inl (a1)), (3, .inl (a3)), (4, .inl (a4)), (5, .inl (a5)), (6, .inl (a6))] [] h hE none := by
  unfold b_X2_goOn_134 at hf
  obtain ⟨x1, e1, hf⟩ := bnd hf
  obtain ⟨x2, e2, hf⟩ := bnd hf
  obtain ⟨x3, e3, hf⟩ := bnd hf
  obtain ⟨x4, e4, hf⟩ := bnd hf
  obtain ⟨⟨x5, h5⟩, e5, hf⟩ := bnd hf
  try dsimp only at hf
  have k5 := c_X2_sumAt e5
  have m5 := (k5 default_g).1
  obtain ⟨x6, e6, hf⟩ := bnd hf
  obtain ⟨h7, e7, hf⟩ := bnd hf
  have k7 := c_X2_setLocal e7
  have m7 := (k7 default_g).1
  have J := q_X2_goOn_153 hr12 hf
  have mE := J.1
  refine ⟨by omega, fun X g K ok nmx lev hK en => ?_⟩
  refine tj_aload_n ok 0 dX2_goOn_134 rfl rfl ?_
  refine tj_aload_n ok 0 dX2_goOn_135 rfl rfl ?_
  refine tj_getR (k := 7) ok fcX2 (by decide) wm_154 rfl (Or.inl ⟨_, rfl⟩) dX2_goOn_136 e1 ?_
  refine tj_getR (k := 1) ok fcX0 (by decide) wm_246 rfl (Or.inr ⟨_, rfl⟩) dX2_goOn_139 e2 ?_
  refine tj_iload_n ok 2 dX2_goOn_142 rfl rfl ?_
  refine tj_iaload ok dX2_goOn_143 e3 ?_
  refine tj_aload_n ok 0 dX2_goOn_144 rfl rfl ?_
  refine tj_iload_n ok 2 dX2_goOn_145 rfl rfl ?_
  refine tj_callV (rest := ([.inl (x3), .inr (.inr (a0))] : List TV).map (vl g)) (as := [.inl (a3)]) ok lev (by omega) fcX2.1 (by decide) rfl (of_if e4).1 (k5 g) (CaX.of en (by omega)) kn_X2_sumAt wm_247 wm_248 wm_249 (rs_ok (Nat.le_of_ble_eq_true rfl)) rfl rfl dX2_goOn_146 ?_
  refine tj_iconst (v := 0) ok dX2_goOn_149 (by decide) ?_
  refine tj_callV (rest := ([] : List TV).map (vl g)) (as := [.inl (x3), .inl (x5), .inl ((0 : Int32))]) ok lev (by omega) fcX2.1 (by decide) rfl (of_if e6).1 (k7 g) (CaX.of en (by omega)) kn_X2_setLocal wm_250 wm_251 wm_252 (rs_ok (Nat.le_of_ble_eq_true rfl)) rfl rfl dX2_goOn_150 ?_
  exact J.2 X g K ok nmx lev hK en
def b_X2_goOn_118 (r12 : Nat → Int32 → Int32 → Int32 → Int32 → AH → Option (AH)) (a0 : Nat) (a1 : Int32) (a3 : Int32) (a4 : Int32) (a5 : Int32) (s0 : Int32) (h : AH) : Option (AH) :=
  (g_r h a0 2 7).bind fun x1 => (g_r h x1 0 0).bind fun x2 => (l_i h x2 a3).bind fun x3 => if x3 = (6 : Int32) then b_X2_goOn_134 r12 a0 a1 a3 a4 a5 s0 h else b_X2_goOn_153 r12 a0 a1 a3 a4 a5 s0 h
set_option maxHeartbeats 4000000 in
set_option maxRecDepth 100000 in
theorem q_X2_goOn_118 {hE : AH} {r12 : Nat → Int32 → Int32 → Int32 → Int32 → AH → Option (AH)} (hr12 : ∀ (b0 : Nat) (b1 : Int32) (b3 : Int32) (b4 : Int32) (b5 : Int32) (h : AH), r12 b0 b1 b3 b4 b5 h = some hE → JD cX2_goOn 7 RX2 "goOn" none (3) 12 [(0, .inr (.inr (b0))), (1, .inl (b1)), (3, .inl (b3)), (4, .inl (b4)), (5, .inl (b5))] [] h hE none) {a0 : Nat} {a1 : Int32} {a3 : Int32} {a4 : Int32} {a5 : Int32} {s0 : Int32} {h : AH} (hf : b_X2_goOn_118 r12 a0 a1 a3 a4 a5 s0 h = some hE) : JD cX2_goOn 7 RX2 "goOn" none (3) 118 [(0, .inr (.inr (a0))), (1, .inl (a1)), (3, .inl (a3)), (4, .inl (a4)), (5, .inl (a5))] [.inl (s0)] h hE none := by
  unfold b_X2_goOn_118 at hf
  obtain ⟨x1, e1, hf⟩ := bnd hf
  obtain ⟨x2, e2, hf⟩ := bnd hf
  obtain ⟨x3, e3, hf⟩ := bnd hf
  have mE : hp_n h ≤ hp_n hE ∧ hp_s h ≤ hp_s hE := by
    by_cases hc : x3 = (6 : Int32)
    · rw [if_pos hc] at hf; exact (q_X2_goOn_134 hr12 hf).1
    · rw [if_neg hc] at hf; exact (q_X2_goOn_153 hr12 hf).1
  refine ⟨by omega, fun X g K ok nmx lev hK en => ?_⟩
  refine tj_istore (lv' := [(0, .inr (.inr (a0))), (1, .inl (a1)), (3, .inl (a3)), (4, .inl (a4)), (5, .inl (a5)), (6, .inl (s0))]) ok dX2_goOn_118 (by decide) rfl ?_
  refine tj_aload_n ok 0 dX2_goOn_120 rfl rfl ?_
  refine tj_getR (k := 7) ok fcX2 (by decide) wm_154 rfl (Or.inl ⟨_, rfl⟩) dX2_goOn_121 e1 ?_
  refine tj_getR (k := 0) ok fcX0 (by decide) wm_253 rfl (Or.inr ⟨_, rfl⟩) dX2_goOn_124 e2 ?_
  refine tj_iload_n ok 2 dX2_goOn_127 rfl rfl ?_
  refine tj_iaload ok dX2_goOn_128 e3 ?_
  refine tj_bipush (v := 6) ok dX2_goOn_129 (by decide) ?_
  refine tj_icmp_ne (tgt := 153) ok dX2_goOn_131 (by decide) (fun hc => ?_) (fun hc => ?_)
  · rw [if_neg hc] at hf
    exact (q_X2_goOn_153 hr12 hf).2 X g K ok nmx lev hK en
  · rw [if_pos hc] at hf
    exact (q_X2_goOn_134 hr12 hf).2 X g K ok nmx lev hK en
def b_X2_goOn_113 (r12 : Nat → Int32 → Int32 → Int32 → Int32 → AH → Option (AH)) (a0 : Nat) (a1 : Int32) (a3 : Int32) (a4 : Int32) (a5 : Int32) (h : AH) : Option (AH) :=
  b_X2_goOn_118 r12 a0 a1 a3 a4 a5 (1 : Int32) h
set_option maxHeartbeats 4000000 in
set_option maxRecDepth 100000 in
theorem q_X2_goOn_113 {hE : AH} {r12 : Nat → Int32 → Int32 → Int32 → Int32 → AH → Option (AH)} (hr12 : ∀ (b0 : Nat) (b1 : Int32) (b3 : Int32) (b4 : Int32) (b5 : Int32) (h : AH), r12 b0 b1 b3 b4 b5 h = some hE → JD cX2_goOn 7 RX2 "goOn" none (3) 12 [(0, .inr (.inr (b0))), (1, .inl (b1)), (3, .inl (b3)), (4, .inl (b4)), (5, .inl (b5))] [] h hE none) {a0 : Nat} {a1 : Int32} {a3 : Int32} {a4 : Int32} {a5 : Int32} {h : AH} (hf : b_X2_goOn_113 r12 a0 a1 a3 a4 a5 h = some hE) : JD cX2_goOn 7 RX2 "goOn" none (3) 113 [(0, .inr (.inr (a0))), (1, .inl (a1)), (3, .inl (a3)), (4, .inl (a4)), (5, .inl (a5))] [] h hE none := by
  unfold b_X2_goOn_113 at hf
  have J := q_X2_goOn_118 hr12 hf
  have mE := J.1
  refine ⟨by omega, fun X g K ok nmx lev hK en => ?_⟩
  refine tj_iconst (v := 1) ok dX2_goOn_113 (by decide) ?_
  refine tj_goto (tgt := 118) ok dX2_goOn_114 (by decide) ?_
  exact J.2 X g K ok nmx lev hK en
def b_X2_goOn_117 (r12 : Nat → Int32 → Int32 → Int32 → Int32 → AH → Option (AH)) (a0 : Nat) (a1 : Int32) (a3 : Int32) (a4 : Int32) (a5 : Int32) (h : AH) : Option (AH) :=
  b_X2_goOn_118 r12 a0 a1 a3 a4 a5 (0 : Int32) h
set_option maxHeartbeats 4000000 in
set_option maxRecDepth 100000 in
theorem q_X2_goOn_117 {hE : AH} {r12 : Nat → Int32 → Int32 → Int32 → Int32 → AH → Option (AH)} (hr12 : ∀ (b0 : Nat) (b1 : Int32) (b3 : Int32) (b4 : Int32) (b5 : Int32) (h : AH), r12 b0 b1 b3 b4 b5 h = some hE → JD cX2_goOn 7 RX2 "goOn" none (3) 12 [(0, .inr (.inr (b0))), (1, .inl (b1)), (3, .inl (b3)), (4, .inl (b4)), (5, .inl (b5))] [] h hE none) {a0 : Nat} {a1 : Int32} {a3 : Int32} {a4 : Int32} {a5 : Int32} {h : AH} (hf : b_X2_goOn_117 r12 a0 a1 a3 a4 a5 h = some hE) : JD cX2_goOn 7 RX2 "goOn" none (3) 117 [(0, .inr (.inr (a0))), (1, .inl (a1)), (3, .inl (a3)), (4, .inl (a4)), (5, .inl (a5))] [] h hE none := by
  unfold b_X2_goOn_117 at hf
  have J := q_X2_goOn_118 hr12 hf
  have mE := J.1
  refine ⟨by omega, fun X g K ok nmx lev hK en => ?_⟩
  refine tj_iconst (v := 0) ok dX2_goOn_117 (by decide) ?_
  exact J.2 X g K ok nmx lev hK en
def b_X2_goOn_88 (r12 : Nat → Int32 → Int32 → Int32 → Int32 → AH → Option (AH)) (a0 : Nat) (a1 : Int32) (a3 : Int32) (a4 : Int32) (a5 : Int32) (h : AH) : Option (AH) :=
  (g_r h a0 2 7).bind fun x1 => (g_r h x1 0 1).bind fun x2 => (l_i h x2 a3).bind fun x3 => (ok_v h a0 2).bind fun x4 => (f_X2_valueOf a0 x3 h).bind fun q5 => (g_r q5.2 a0 2 7).bind fun x6 => (g_r q5.2 x6 0 3).bind fun x7 => (l_i q5.2 x7 a3).bind fun x8 => if q5.1 = x8 then b_X2_goOn_117 r12 a0 a1 a3 a4 a5 q5.2 else b_X2_goOn_113 r12 a0 a1 a3 a4 a5 q5.2
set_option maxHeartbeats 4000000 in
set_option maxRecDepth 100000 in
theorem q_X2_goOn_88 {hE : AH} {r12 : Nat → Int32 → Int32 → Int32 → Int32 → AH → Option (AH)} (hr12 : ∀ (b0 : Nat) (b1 : Int32) (b3 : Int32) (b4 : Int32) (b5 : Int32) (h : AH), r12 b0 b1 b3 b4 b5 h = some hE → JD cX2_goOn 7 RX2 "goOn" none (3) 12 [(0, .inr (.inr (b0))), (1, .inl (b1)), (3, .inl (b3)), (4, .inl (b4)), (5, .inl (b5))] [] h hE none) {a0 : Nat} {a1 : Int32} {a3 : Int32} {a4 : Int32} {a5 : Int32} {h : AH} (hf : b_X2_goOn_88 r12 a0 a1 a3 a4 a5 h = some hE) : JD cX2_goOn 7 RX2 "goOn" none (3) 88 [(0, .inr (.inr (a0))), (1, .inl (a1)), (3, .inl (a3)), (4, .inl (a4)), (5, .inl (a5))] [] h hE none := by
  unfold b_X2_goOn_88 at hf
  obtain ⟨x1, e1, hf⟩ := bnd hf
  obtain ⟨x2, e2, hf⟩ := bnd hf
  obtain ⟨x3, e3, hf⟩ := bnd hf
  obtain ⟨x4, e4, hf⟩ := bnd hf
  obtain ⟨⟨x5, h5⟩, e5, hf⟩ := bnd hf
  try dsimp only at hf
  have k5 := c_X2_valueOf e5
  have m5 := (k5 default_g).1
  obtain ⟨x6, e6, hf⟩ := bnd hf
  obtain ⟨x7, e7, hf⟩ := bnd hf
  obtain ⟨x8, e8, hf⟩ := bnd hf
  have mE : hp_n h5 ≤ hp_n hE ∧ hp_s h5 ≤ hp_s hE := by
    by_cases hc : x5 = x8
    · rw [if_pos hc] at hf; exact (q_X2_goOn_117 hr12 hf).1
    · rw [if_neg hc] at hf; exact (q_X2_goOn_113 hr12 hf).1
  refine ⟨by omega, fun X g K ok nmx lev hK en => ?_⟩
  refine tj_aload_n ok 0 dX2_goOn_88 rfl rfl ?_
  refine tj_aload_n ok 0 dX2_goOn_89 rfl rfl ?_
  refine tj_getR (k := 7) ok fcX2 (by decide) wm_154 rfl (Or.inl ⟨_, rfl⟩) dX2_goOn_90 e1 ?_
  refine tj_getR (k := 1) ok fcX0 (by decide) wm_246 rfl (Or.inr ⟨_, rfl⟩) dX2_goOn_93 e2 ?_
  refine tj_iload_n ok 2 dX2_goOn_96 rfl rfl ?_
  refine tj_iaload ok dX2_goOn_97 e3 ?_
  refine tj_callV (rest := ([] : List TV).map (vl g)) (as := [.inl (x3)]) ok lev (by omega) fcX2.1 (by decide) rfl (of_if e4).1 (k5 g) (CaX.of en (by omega)) kn_X2_valueOf wm_254 wm_255 wm_256 (rs_ok (Nat.le_of_ble_eq_true rfl)) rfl rfl dX2_goOn_98 ?_
  refine tj_aload_n ok 0 dX2_goOn_101 rfl rfl ?_
  refine tj_getR (k := 7) ok fcX2 (by decide) wm_154 rfl (Or.inl ⟨_, rfl⟩) dX2_goOn_102 e6 ?_
  refine tj_getR (k := 3) ok fcX0 (by decide) wm_242 rfl (Or.inr ⟨_, rfl⟩) dX2_goOn_105 e7 ?_
  refine tj_iload_n ok 2 dX2_goOn_108 rfl rfl ?_
  refine tj_iaload ok dX2_goOn_109 e8 ?_
  refine tj_icmp_eq (tgt := 117) ok dX2_goOn_110 (by decide) (fun hc => ?_) (fun hc => ?_)
  · rw [if_pos hc] at hf
    exact (q_X2_goOn_117 hr12 hf).2 X g K ok nmx lev hK en
  · rw [if_neg hc] at hf
    exact (q_X2_goOn_113 hr12 hf).2 X g K ok nmx lev hK en
def b_X2_goOn_74 (r12 : Nat → Int32 → Int32 → Int32 → Int32 → AH → Option (AH)) (a0 : Nat) (a1 : Int32) (a3 : Int32) (a4 : Int32) (a5 : Int32) (h : AH) : Option (AH) :=
  (g_r h a0 2 7).bind fun x1 => (g_r h x1 0 0).bind fun x2 => (l_i h x2 a3).bind fun x3 => if x3 = (7 : Int32) then b_X2_goOn_88 r12 a0 a1 a3 a4 a5 h else b_X2_goOn_117 r12 a0 a1 a3 a4 a5 h
set_option maxHeartbeats 4000000 in
set_option maxRecDepth 100000 in
theorem q_X2_goOn_74 {hE : AH} {r12 : Nat → Int32 → Int32 → Int32 → Int32 → AH → Option (AH)} (hr12 : ∀ (b0 : Nat) (b1 : Int32) (b3 : Int32) (b4 : Int32) (b5 : Int32) (h : AH), r12 b0 b1 b3 b4 b5 h = some hE → JD cX2_goOn 7 RX2 "goOn" none (3) 12 [(0, .inr (.inr (b0))), (1, .inl (b1)), (3, .inl (b3)), (4, .inl (b4)), (5, .inl (b5))] [] h hE none) {a0 : Nat} {a1 : Int32} {a3 : Int32} {a4 : Int32} {a5 : Int32} {h : AH} (hf : b_X2_goOn_74 r12 a0 a1 a3 a4 a5 h = some hE) : JD cX2_goOn 7 RX2 "goOn" none (3) 74 [(0, .inr (.inr (a0))), (1, .inl (a1)), (3, .inl (a3)), (4, .inl (a4)), (5, .inl (a5))] [] h hE none := by
  unfold b_X2_goOn_74 at hf
  obtain ⟨x1, e1, hf⟩ := bnd hf
  obtain ⟨x2, e2, hf⟩ := bnd hf
  obtain ⟨x3, e3, hf⟩ := bnd hf
  have mE : hp_n h ≤ hp_n hE ∧ hp_s h ≤ hp_s hE := by
    by_cases hc : x3 = (7 : Int32)
    · rw [if_pos hc] at hf; exact (q_X2_goOn_88 hr12 hf).1
    · rw [if_neg hc] at hf; exact (q_X2_goOn_117 hr12 hf).1
  refine ⟨by omega, fun X g K ok nmx lev hK en => ?_⟩
  refine tj_aload_n ok 0 dX2_goOn_74 rfl rfl ?_
  refine tj_getR (k := 7) ok fcX2 (by decide) wm_154 rfl (Or.inl ⟨_, rfl⟩) dX2_goOn_75 e1 ?_
  refine tj_getR (k := 0) ok fcX0 (by decide) wm_253 rfl (Or.inr ⟨_, rfl⟩) dX2_goOn_78 e2 ?_
  refine tj_iload_n ok 2 dX2_goOn_81 rfl rfl ?_
  refine tj_iaload ok dX2_goOn_82 e3 ?_
  refine tj_bipush (v := 7) ok dX2_goOn_83 (by decide) ?_
  refine tj_icmp_ne (tgt := 117) ok dX2_goOn_85 (by decide) (fun hc => ?_) (fun hc => ?_)
  · rw [if_neg hc] at hf
    exact (q_X2_goOn_117 hr12 hf).2 X g K ok nmx lev hK en
  · rw [if_pos hc] at hf
    exact (q_X2_goOn_88 hr12 hf).2 X g K ok nmx lev hK en
def b_X2_goOn_60 (r12 : Nat → Int32 → Int32 → Int32 → Int32 → AH → Option (AH)) (a0 : Nat) (a1 : Int32) (a3 : Int32) (a4 : Int32) (a5 : Int32) (h : AH) : Option (AH) :=
  (g_r h a0 2 7).bind fun x1 => (g_r h x1 0 0).bind fun x2 => (l_i h x2 a3).bind fun x3 => if x3 = (8 : Int32) then b_X2_goOn_113 r12 a0 a1 a3 a4 a5 h else b_X2_goOn_74 r12 a0 a1 a3 a4 a5 h
set_option maxHeartbeats 4000000 in
set_option maxRecDepth 100000 in
theorem q_X2_goOn_60 {hE : AH} {r12 : Nat → Int32 → Int32 → Int32 → Int32 → AH → Option (AH)} (hr12 : ∀ (b0 : Nat) (b1 : Int32) (b3 : Int32) (b4 : Int32) (b5 : Int32) (h : AH), r12 b0 b1 b3 b4 b5 h = some hE → JD cX2_goOn 7 RX2 "goOn" none (3) 12 [(0, .inr (.inr (b0))), (1, .inl (b1)), (3, .inl (b3)), (4, .inl (b4)), (5, .inl (b5))] [] h hE none) {a0 : Nat} {a1 : Int32} {a3 : Int32} {a4 : Int32} {a5 : Int32} {h : AH} (hf : b_X2_goOn_60 r12 a0 a1 a3 a4 a5 h = some hE) : JD cX2_goOn 7 RX2 "goOn" none (3) 60 [(0, .inr (.inr (a0))), (1, .inl (a1)), (3, .inl (a3)), (4, .inl (a4)), (5, .inl (a5))] [] h hE none := by
  unfold b_X2_goOn_60 at hf
  obtain ⟨x1, e1, hf⟩ := bnd hf
  obtain ⟨x2, e2, hf⟩ := bnd hf
  obtain ⟨x3, e3, hf⟩ := bnd hf
  have mE : hp_n h ≤ hp_n hE ∧ hp_s h ≤ hp_s hE := by
    by_cases hc : x3 = (8 : Int32)
    · rw [if_pos hc] at hf; exact (q_X2_goOn_113 hr12 hf).1
    · rw [if_neg hc] at hf; exact (q_X2_goOn_74 hr12 hf).1
  refine ⟨by omega, fun X g K ok nmx lev hK en => ?_⟩
  refine tj_aload_n ok 0 dX2_goOn_60 rfl rfl ?_
  refine tj_getR (k := 7) ok fcX2 (by decide) wm_154 rfl (Or.inl ⟨_, rfl⟩) dX2_goOn_61 e1 ?_
  refine tj_getR (k := 0) ok fcX0 (by decide) wm_253 rfl (Or.inr ⟨_, rfl⟩) dX2_goOn_64 e2 ?_
  refine tj_iload_n ok 2 dX2_goOn_67 rfl rfl ?_
  refine tj_iaload ok dX2_goOn_68 e3 ?_
  refine tj_bipush (v := 8) ok dX2_goOn_69 (by decide) ?_
  refine tj_icmp_eq (tgt := 113) ok dX2_goOn_71 (by decide) (fun hc => ?_) (fun hc => ?_)
  · rw [if_pos hc] at hf
    exact (q_X2_goOn_113 hr12 hf).2 X g K ok nmx lev hK en
  · rw [if_neg hc] at hf
    exact (q_X2_goOn_74 hr12 hf).2 X g K ok nmx lev hK en
def b_X2_goOn_46 (a0 : Nat) (a1 : Int32) (a3 : Int32) (h : AH) : Option (AH) :=
  (g_r h a0 2 7).bind fun x1 => (g_r h x1 0 6).bind fun x2 => (l_i h x2 a3).bind fun x3 => b_X2_goOn_183 a0 a1 x3 h
set_option maxHeartbeats 4000000 in
set_option maxRecDepth 100000 in
theorem q_X2_goOn_46 {a0 : Nat} {a1 : Int32} {a3 : Int32} {h hE : AH} (hf : b_X2_goOn_46 a0 a1 a3 h = some hE) : JD cX2_goOn 7 RX2 "goOn" none (3) 46 [(0, .inr (.inr (a0))), (1, .inl (a1)), (3, .inl (a3))] [] h hE none := by
  unfold b_X2_goOn_46 at hf
  obtain ⟨x1, e1, hf⟩ := bnd hf
  obtain ⟨x2, e2, hf⟩ := bnd hf
  obtain ⟨x3, e3, hf⟩ := bnd hf
  have J := q_X2_goOn_183 hf
  have mE := J.1
  refine ⟨by omega, fun X g K ok nmx lev hK en => ?_⟩
  refine tj_aload_n ok 0 dX2_goOn_46 rfl rfl ?_
  refine tj_getR (k := 7) ok fcX2 (by decide) wm_154 rfl (Or.inl ⟨_, rfl⟩) dX2_goOn_47 e1 ?_
  refine tj_getR (k := 6) ok fcX0 (by decide) wm_257 rfl (Or.inr ⟨_, rfl⟩) dX2_goOn_50 e2 ?_
  refine tj_iload_n ok 2 dX2_goOn_53 rfl rfl ?_
  refine tj_iaload ok dX2_goOn_54 e3 ?_
  refine tj_istore (lv' := [(0, .inr (.inr (a0))), (1, .inl (a1)), (3, .inl (a3)), (4, .inl (x3))]) ok dX2_goOn_55 (by decide) rfl ?_
  refine tj_goto (tgt := 183) ok dX2_goOn_57 (by decide) ?_
  refine tj_sub (lv' := [(0, .inr (.inr (a0))), (1, .inl (a1)), (4, .inl (x3))]) [0, 1, 3] rfl ?_
  exact J.2 X g K ok nmx lev hK en
def b_X2_goOn_33 (r12 : Nat → Int32 → Int32 → Int32 → Int32 → AH → Option (AH)) (a0 : Nat) (a1 : Int32) (a3 : Int32) (a4 : Int32) (a5 : Int32) (h : AH) : Option (AH) :=
  (g_r h a0 2 7).bind fun x1 => (g_r h x1 0 6).bind fun x2 => (l_i h x2 a3).bind fun x3 => if x3 = (-1 : Int32) then b_X2_goOn_60 r12 a0 a1 a3 a4 a5 h else b_X2_goOn_46 a0 a1 a3 h
set_option maxHeartbeats 4000000 in
set_option maxRecDepth 100000 in
theorem q_X2_goOn_33 {hE : AH} {r12 : Nat → Int32 → Int32 → Int32 → Int32 → AH → Option (AH)} (hr12 : ∀ (b0 : Nat) (b1 : Int32) (b3 : Int32) (b4 : Int32) (b5 : Int32) (h : AH), r12 b0 b1 b3 b4 b5 h = some hE → JD cX2_goOn 7 RX2 "goOn" none (3) 12 [(0, .inr (.inr (b0))), (1, .inl (b1)), (3, .inl (b3)), (4, .inl (b4)), (5, .inl (b5))] [] h hE none) {a0 : Nat} {a1 : Int32} {a3 : Int32} {a4 : Int32} {a5 : Int32} {h : AH} (hf : b_X2_goOn_33 r12 a0 a1 a3 a4 a5 h = some hE) : JD cX2_goOn 7 RX2 "goOn" none (3) 33 [(0, .inr (.inr (a0))), (1, .inl (a1)), (3, .inl (a3)), (4, .inl (a4)), (5, .inl (a5))] [] h hE none := by
  unfold b_X2_goOn_33 at hf
  obtain ⟨x1, e1, hf⟩ := bnd hf
  obtain ⟨x2, e2, hf⟩ := bnd hf
  obtain ⟨x3, e3, hf⟩ := bnd hf
  have mE : hp_n h ≤ hp_n hE ∧ hp_s h ≤ hp_s hE := by
    by_cases hc : x3 = (-1 : Int32)
    · rw [if_pos hc] at hf; exact (q_X2_goOn_60 hr12 hf).1
    · rw [if_neg hc] at hf; exact (q_X2_goOn_46 hf).1
  refine ⟨by omega, fun X g K ok nmx lev hK en => ?_⟩
  refine tj_aload_n ok 0 dX2_goOn_33 rfl rfl ?_
  refine tj_getR (k := 7) ok fcX2 (by decide) wm_154 rfl (Or.inl ⟨_, rfl⟩) dX2_goOn_34 e1 ?_
  refine tj_getR (k := 6) ok fcX0 (by decide) wm_257 rfl (Or.inr ⟨_, rfl⟩) dX2_goOn_37 e2 ?_
  refine tj_iload_n ok 2 dX2_goOn_40 rfl rfl ?_
  refine tj_iaload ok dX2_goOn_41 e3 ?_
  refine tj_iconst (v := -1) ok dX2_goOn_42 (by decide) ?_
  refine tj_icmp_eq (tgt := 60) ok dX2_goOn_43 (by decide) (fun hc => ?_) (fun hc => ?_)
  · rw [if_pos hc] at hf
    exact (q_X2_goOn_60 hr12 hf).2 X g K ok nmx lev hK en
  · rw [if_neg hc] at hf
    refine tj_sub (lv' := [(0, .inr (.inr (a0))), (1, .inl (a1)), (3, .inl (a3))]) [0, 1, 2] rfl ?_
    exact (q_X2_goOn_46 hf).2 X g K ok nmx lev hK en
def b_X2_goOn_19 (r12 : Nat → Int32 → Int32 → Int32 → Int32 → AH → Option (AH)) (a0 : Nat) (a1 : Int32) (a3 : Int32) (a4 : Int32) (a5 : Int32) (h : AH) : Option (AH) :=
  (g_r h a0 2 7).bind fun x1 => (g_r h x1 0 0).bind fun x2 => (l_i h x2 a3).bind fun x3 => if x3 = (10 : Int32) then b_X2_goOn_183 a0 a1 a4 h else b_X2_goOn_33 r12 a0 a1 a3 a4 a5 h
set_option maxHeartbeats 4000000 in
set_option maxRecDepth 100000 in
theorem q_X2_goOn_19 {hE : AH} {r12 : Nat → Int32 → Int32 → Int32 → Int32 → AH → Option (AH)} (hr12 : ∀ (b0 : Nat) (b1 : Int32) (b3 : Int32) (b4 : Int32) (b5 : Int32) (h : AH), r12 b0 b1 b3 b4 b5 h = some hE → JD cX2_goOn 7 RX2 "goOn" none (3) 12 [(0, .inr (.inr (b0))), (1, .inl (b1)), (3, .inl (b3)), (4, .inl (b4)), (5, .inl (b5))] [] h hE none) {a0 : Nat} {a1 : Int32} {a3 : Int32} {a4 : Int32} {a5 : Int32} {h : AH} (hf : b_X2_goOn_19 r12 a0 a1 a3 a4 a5 h = some hE) : JD cX2_goOn 7 RX2 "goOn" none (3) 19 [(0, .inr (.inr (a0))), (1, .inl (a1)), (3, .inl (a3)), (4, .inl (a4)), (5, .inl (a5))] [] h hE none := by
  unfold b_X2_goOn_19 at hf
  obtain ⟨x1, e1, hf⟩ := bnd hf
  obtain ⟨x2, e2, hf⟩ := bnd hf
  obtain ⟨x3, e3, hf⟩ := bnd hf
  have mE : hp_n h ≤ hp_n hE ∧ hp_s h ≤ hp_s hE := by
    by_cases hc : x3 = (10 : Int32)
    · rw [if_pos hc] at hf; exact (q_X2_goOn_183 hf).1
    · rw [if_neg hc] at hf; exact (q_X2_goOn_33 hr12 hf).1
  refine ⟨by omega, fun X g K ok nmx lev hK en => ?_⟩
  refine tj_aload_n ok 0 dX2_goOn_19 rfl rfl ?_
  refine tj_getR (k := 7) ok fcX2 (by decide) wm_154 rfl (Or.inl ⟨_, rfl⟩) dX2_goOn_20 e1 ?_
  refine tj_getR (k := 0) ok fcX0 (by decide) wm_253 rfl (Or.inr ⟨_, rfl⟩) dX2_goOn_23 e2 ?_
  refine tj_iload_n ok 2 dX2_goOn_26 rfl rfl ?_
  refine tj_iaload ok dX2_goOn_27 e3 ?_
  refine tj_bipush (v := 10) ok dX2_goOn_28 (by decide) ?_
  refine tj_icmp_eq (tgt := 183) ok dX2_goOn_30 (by decide) (fun hc => ?_) (fun hc => ?_)
  · rw [if_pos hc] at hf
    refine tj_sub (lv' := [(0, .inr (.inr (a0))), (1, .inl (a1)), (4, .inl (a4))]) [0, 1, 3] rfl ?_
    exact (q_X2_goOn_183 hf).2 X g K ok nmx lev hK en
  · rw [if_neg hc] at hf
    exact (q_X2_goOn_33 hr12 hf).2 X g K ok nmx lev hK en
def b_X2_goOn_12 (r12 : Nat → Int32 → Int32 → Int32 → Int32 → AH → Option (AH)) (a0 : Nat) (a1 : Int32) (a3 : Int32) (a4 : Int32) (a5 : Int32) (h : AH) : Option (AH) :=
  if (64 : Int32) ≤ a5 then b_X2_goOn_183 a0 a1 a4 h else b_X2_goOn_19 r12 a0 a1 a3 a4 a5 h
set_option maxHeartbeats 4000000 in
set_option maxRecDepth 100000 in
theorem q_X2_goOn_12 {hE : AH} {r12 : Nat → Int32 → Int32 → Int32 → Int32 → AH → Option (AH)} (hr12 : ∀ (b0 : Nat) (b1 : Int32) (b3 : Int32) (b4 : Int32) (b5 : Int32) (h : AH), r12 b0 b1 b3 b4 b5 h = some hE → JD cX2_goOn 7 RX2 "goOn" none (3) 12 [(0, .inr (.inr (b0))), (1, .inl (b1)), (3, .inl (b3)), (4, .inl (b4)), (5, .inl (b5))] [] h hE none) {a0 : Nat} {a1 : Int32} {a3 : Int32} {a4 : Int32} {a5 : Int32} {h : AH} (hf : b_X2_goOn_12 r12 a0 a1 a3 a4 a5 h = some hE) : JD cX2_goOn 7 RX2 "goOn" none (3) 12 [(0, .inr (.inr (a0))), (1, .inl (a1)), (3, .inl (a3)), (4, .inl (a4)), (5, .inl (a5))] [] h hE none := by
  unfold b_X2_goOn_12 at hf
  have mE : hp_n h ≤ hp_n hE ∧ hp_s h ≤ hp_s hE := by
    by_cases hc : (64 : Int32) ≤ a5
    · rw [if_pos hc] at hf; exact (q_X2_goOn_183 hf).1
    · rw [if_neg hc] at hf; exact (q_X2_goOn_19 hr12 hf).1
  refine ⟨by omega, fun X g K ok nmx lev hK en => ?_⟩
  refine tj_iload ok 4 dX2_goOn_12 rfl ?_
  refine tj_bipush (v := 64) ok dX2_goOn_14 (by decide) ?_
  refine tj_icmp_ge (tgt := 183) ok dX2_goOn_16 (by decide) (fun hc => ?_) (fun hc => ?_)
  · rw [if_pos hc] at hf
    refine tj_sub (lv' := [(0, .inr (.inr (a0))), (1, .inl (a1)), (4, .inl (a4))]) [0, 1, 3] rfl ?_
    exact (q_X2_goOn_183 hf).2 X g K ok nmx lev hK en
  · rw [if_neg hc] at hf
    exact (q_X2_goOn_19 hr12 hf).2 X g K ok nmx lev hK en
def l_X2_goOn_12 : Nat → Nat → Int32 → Int32 → Int32 → Int32 → AH → Option (AH)
  | 0 => fun _ _ _ _ _ _ => none
  | n + 1 => fun a0 a1 a3 a4 a5 h => b_X2_goOn_12 (l_X2_goOn_12 n) a0 a1 a3 a4 a5 h
theorem ql_X2_goOn_12 {n : Nat} {a0 : Nat} {a1 : Int32} {a3 : Int32} {a4 : Int32} {a5 : Int32} {h hE : AH} (hf : l_X2_goOn_12 n a0 a1 a3 a4 a5 h = some hE) : JD cX2_goOn 7 RX2 "goOn" none (3) 12 [(0, .inr (.inr (a0))), (1, .inl (a1)), (3, .inl (a3)), (4, .inl (a4)), (5, .inl (a5))] [] h hE none := by
  induction n generalizing a0 a1 a3 a4 a5 h with
  | zero => cases hf
  | succ n ih => exact q_X2_goOn_12 (fun _ _ _ _ _ _ hf => ih hf) hf
def b_X2_goOn_0 (a0 : Nat) (a1 : Int32) (a2 : Int32) (h : AH) : Option (AH) :=
  l_X2_goOn_12 fu_ a0 a1 (a2 &&& (63 : Int32)) (8 : Int32) (0 : Int32) h
set_option maxHeartbeats 4000000 in
set_option maxRecDepth 100000 in
theorem q_X2_goOn_0 {a0 : Nat} {a1 : Int32} {a2 : Int32} {h hE : AH} (hf : b_X2_goOn_0 a0 a1 a2 h = some hE) : JD cX2_goOn 7 RX2 "goOn" none (3) 0 [(0, .inr (.inr (a0))), (1, .inl (a1)), (2, .inl (a2))] [] h hE none := by
  unfold b_X2_goOn_0 at hf
  have J := ql_X2_goOn_12 hf
  have mE := J.1
  refine ⟨by omega, fun X g K ok nmx lev hK en => ?_⟩
  refine tj_iload_n ok 2 dX2_goOn_0 rfl rfl ?_
  refine tj_bipush (v := 63) ok dX2_goOn_1 (by decide) ?_
  refine tj_iand ok dX2_goOn_3 ?_
  refine tj_istore_n (lv' := [(0, .inr (.inr (a0))), (1, .inl (a1)), (2, .inl (a2)), (3, .inl (a2 &&& (63 : Int32)))]) ok dX2_goOn_4 rfl (by decide) rfl ?_
  refine tj_bipush (v := 8) ok dX2_goOn_5 (by decide) ?_
  refine tj_istore (lv' := [(0, .inr (.inr (a0))), (1, .inl (a1)), (2, .inl (a2)), (3, .inl (a2 &&& (63 : Int32))), (4, .inl ((8 : Int32)))]) ok dX2_goOn_7 (by decide) rfl ?_
  refine tj_iconst (v := 0) ok dX2_goOn_9 (by decide) ?_
  refine tj_istore (lv' := [(0, .inr (.inr (a0))), (1, .inl (a1)), (2, .inl (a2)), (3, .inl (a2 &&& (63 : Int32))), (4, .inl ((8 : Int32))), (5, .inl ((0 : Int32)))]) ok dX2_goOn_10 (by decide) rfl ?_
  refine tj_sub (lv' := [(0, .inr (.inr (a0))), (1, .inl (a1)), (3, .inl (a2 &&& (63 : Int32))), (4, .inl ((8 : Int32))), (5, .inl ((0 : Int32)))]) [0, 1, 3, 4, 5] rfl ?_
  exact J.2 X g K ok nmx lev hK en
def f_X2_goOn (a0 : Nat) (a1 : Int32) (a2 : Int32) (h : AH) : Option (AH) := b_X2_goOn_0  a0 a1 a2 h
theorem c_X2_goOn {a0 : Nat} {a1 : Int32} {a2 : Int32} {h hE : AH} (hf : f_X2_goOn a0 a1 a2 h = some hE) : ∀ g : GT, CM g (3) yX2_goOn cX2_goOn 7 none h [.inr (.inr (a0)), .inl (a1), .inl (a2)] hE none :=
  CM.ofJ (by decide) (by show _ ≤ 7; exact Nat.le_of_ble_eq_true rfl) (q_X2_goOn_0 hf)
/-! ===== LitmusHouse$Machine.set(JJJ)V ===== -/
def b_X2_set_0 (a0 : Nat) (a1 : Int64) (a3 : Int64) (a5 : Int64) (h : AH) : Option (AH) :=
  (p_j h a0 2 0 a1).bind fun h1 => (p_j h1 a0 2 1 a3).bind fun h2 => (p_j h2 a0 2 2 a5).bind fun h3 => some h3
set_option maxHeartbeats 4000000 in
set_option maxRecDepth 100000 in
theorem q_X2_set_0 {a0 : Nat} {a1 : Int64} {a3 : Int64} {a5 : Int64} {h hE : AH} (hf : b_X2_set_0 a0 a1 a3 a5 h = some hE) : JD cX2_set 7 RX2 "set" none (2) 0 [(0, .inr (.inr (a0))), (1, .inr (.inl (a1))), (3, .inr (.inl (a3))), (5, .inr (.inl (a5)))] [] h hE none := by
  unfold b_X2_set_0 at hf
  obtain ⟨h1, e1, hf⟩ := bnd hf
  have m1 := nn_pj e1
  obtain ⟨h2, e2, hf⟩ := bnd hf
  have m2 := nn_pj e2
  obtain ⟨h3, e3, hf⟩ := bnd hf
  have m3 := nn_pj e3
  have hh := Option.some.inj hf
  subst hh
  have mE : hp_n h3 ≤ hp_n h3 ∧ hp_s h3 ≤ hp_s h3 := ⟨Nat.le_refl _, Nat.le_refl _⟩
  refine ⟨by omega, fun X g K ok nmx lev hK en => ?_⟩
  refine tj_aload_n ok 0 dX2_set_0 rfl rfl ?_
  refine tj_lload_n ok 1 dX2_set_1 rfl rfl ?_
  refine tj_putJ (k := 0) ok fcX2 (by decide) wm_144 rfl (Or.inl rfl) rfl dX2_set_2 e1 ?_
  refine tj_aload_n ok 0 dX2_set_5 rfl rfl ?_
  refine tj_lload_n ok 2 dX2_set_6 rfl rfl ?_
  refine tj_putJ (k := 1) ok fcX2 (by decide) wm_145 rfl (Or.inl rfl) rfl dX2_set_7 e2 ?_
  refine tj_aload_n ok 0 dX2_set_10 rfl rfl ?_
  refine tj_lload ok 3 dX2_set_11 rfl ?_
  refine tj_putJ (k := 2) ok fcX2 (by decide) wm_146 rfl (Or.inl rfl) rfl dX2_set_13 e3 ?_
  exact tj_return ok en dX2_set_16
def f_X2_set (a0 : Nat) (a1 : Int64) (a3 : Int64) (a5 : Int64) (h : AH) : Option (AH) := b_X2_set_0  a0 a1 a3 a5 h
theorem c_X2_set {a0 : Nat} {a1 : Int64} {a3 : Int64} {a5 : Int64} {h hE : AH} (hf : f_X2_set a0 a1 a3 a5 h = some hE) : ∀ g : GT, CM g (2) yX2_set cX2_set 7 none h [.inr (.inr (a0)), .inr (.inl (a1)), .inr (.inl (a3)), .inr (.inl (a5))] hE none :=
  CM.ofJ (by decide) (by show _ ≤ 7; exact Nat.le_of_ble_eq_true rfl) (q_X2_set_0 hf)
/-! ===== LitmusHouse$Machine.begin(LLitmusHouse$Code;II)V ===== -/
def b_X2_begin_190  (h : AH) : Option (AH) :=
  some h
set_option maxHeartbeats 4000000 in
set_option maxRecDepth 100000 in
theorem q_X2_begin_190 {h hE : AH} (hf : b_X2_begin_190  h = some hE) : JD cX2_begin 5 RX2 "begin" none (4) 190 [] [] h hE none := by
  unfold b_X2_begin_190 at hf
  have hh := Option.some.inj hf
  subst hh
  have mE : hp_n h ≤ hp_n h ∧ hp_s h ≤ hp_s h := ⟨Nat.le_refl _, Nat.le_refl _⟩
  refine ⟨by omega, fun X g K ok nmx lev hK en => ?_⟩
  exact tj_return ok en dX2_begin_190
def b_X2_begin_168 (r150 : Nat → Int32 → AH → Option (AH)) (a0 : Nat) (a4 : Int32) (h : AH) : Option (AH) :=
  (g_r h a0 2 7).bind fun x1 => (g_r h x1 0 7).bind fun x2 => (l_i h x2 a4).bind fun x3 => (ok_v h a0 2).bind fun x4 => (f_X2_goOn a0 a4 x3 h).bind fun h5 => r150 a0 (a4 + (1 : Int32)) h5
set_option maxHeartbeats 4000000 in
set_option maxRecDepth 100000 in
theorem q_X2_begin_168 {hE : AH} {r150 : Nat → Int32 → AH → Option (AH)} (hr150 : ∀ (b0 : Nat) (b4 : Int32) (h : AH), r150 b0 b4 h = some hE → JD cX2_begin 5 RX2 "begin" none (4) 150 [(0, .inr (.inr (b0))), (4, .inl (b4))] [] h hE none) {a0 : Nat} {a4 : Int32} {h : AH} (hf : b_X2_begin_168 r150 a0 a4 h = some hE) : JD cX2_begin 5 RX2 "begin" none (4) 168 [(0, .inr (.inr (a0))), (4, .inl (a4))] [] h hE none := by
  unfold b_X2_begin_168 at hf
  obtain ⟨x1, e1, hf⟩ := bnd hf
  obtain ⟨x2, e2, hf⟩ := bnd hf
  obtain ⟨x3, e3, hf⟩ := bnd hf
  obtain ⟨x4, e4, hf⟩ := bnd hf
  obtain ⟨h5, e5, hf⟩ := bnd hf
  have k5 := c_X2_goOn e5
  have m5 := (k5 default_g).1
  have J := hr150 _ _ _ hf
  have mE := J.1
  refine ⟨by omega, fun X g K ok nmx lev hK en => ?_⟩
  refine tj_aload_n ok 0 dX2_begin_168 rfl rfl ?_
  refine tj_iload ok 1 dX2_begin_169 rfl ?_
  refine tj_aload_n ok 0 dX2_begin_171 rfl rfl ?_
  refine tj_getR (k := 7) ok fcX2 (by decide) wm_154 rfl (Or.inl ⟨_, rfl⟩) dX2_begin_172 e1 ?_
  refine tj_getR (k := 7) ok fcX0 (by decide) wm_260 rfl (Or.inr ⟨_, rfl⟩) dX2_begin_175 e2 ?_
  refine tj_iload ok 1 dX2_begin_178 rfl ?_
  refine tj_iaload ok dX2_begin_180 e3 ?_
  refine tj_callV (rest := ([] : List TV).map (vl g)) (as := [.inl (a4), .inl (x3)]) ok lev (by omega) fcX2.1 (by decide) rfl (of_if e4).1 (k5 g) (CaX.of en (by omega)) kn_X2_goOn wm_261 wm_262 wm_263 (rs_ok (Nat.le_of_ble_eq_true rfl)) rfl rfl dX2_begin_181 ?_
  refine tj_iinc (lv' := [(0, .inr (.inr (a0))), (4, .inl (a4 + (1 : Int32)))]) ok 1 dX2_begin_184 rfl (rfl) (by decide) rfl ?_
  refine tj_goto (tgt := 150) ok dX2_begin_187 (by decide) ?_
  exact J.2 X g K ok nmx lev hK en
def b_X2_begin_162 (r150 : Nat → Int32 → AH → Option (AH)) (a0 : Nat) (a4 : Int32) (h : AH) : Option (AH) :=
  if (4 : Int32) ≤ a4 then b_X2_begin_190 h else b_X2_begin_168 r150 a0 a4 h
set_option maxHeartbeats 4000000 in
set_option maxRecDepth 100000 in
theorem q_X2_begin_162 {hE : AH} {r150 : Nat → Int32 → AH → Option (AH)} (hr150 : ∀ (b0 : Nat) (b4 : Int32) (h : AH), r150 b0 b4 h = some hE → JD cX2_begin 5 RX2 "begin" none (4) 150 [(0, .inr (.inr (b0))), (4, .inl (b4))] [] h hE none) {a0 : Nat} {a4 : Int32} {h : AH} (hf : b_X2_begin_162 r150 a0 a4 h = some hE) : JD cX2_begin 5 RX2 "begin" none (4) 162 [(0, .inr (.inr (a0))), (4, .inl (a4))] [] h hE none := by
  unfold b_X2_begin_162 at hf
  have mE : hp_n h ≤ hp_n hE ∧ hp_s h ≤ hp_s hE := by
    by_cases hc : (4 : Int32) ≤ a4
    · rw [if_pos hc] at hf; exact (q_X2_begin_190 hf).1
    · rw [if_neg hc] at hf; exact (q_X2_begin_168 hr150 hf).1
  refine ⟨by omega, fun X g K ok nmx lev hK en => ?_⟩
  refine tj_iload ok 1 dX2_begin_162 rfl ?_
  refine tj_iconst (v := 4) ok dX2_begin_164 (by decide) ?_
  refine tj_icmp_ge (tgt := 190) ok dX2_begin_165 (by decide) (fun hc => ?_) (fun hc => ?_)
  · rw [if_pos hc] at hf
    refine tj_sub (lv' := []) [] rfl ?_
    exact (q_X2_begin_190 hf).2 X g K ok nmx lev hK en
  · rw [if_neg hc] at hf
    exact (q_X2_begin_168 hr150 hf).2 X g K ok nmx lev hK en
def b_X2_begin_150 (r150 : Nat → Int32 → AH → Option (AH)) (a0 : Nat) (a4 : Int32) (h : AH) : Option (AH) :=
  (g_r h a0 2 7).bind fun x1 => (g_i h x1 0 11).bind fun x2 => if x2 ≤ a4 then b_X2_begin_190 h else b_X2_begin_162 r150 a0 a4 h
set_option maxHeartbeats 4000000 in
set_option maxRecDepth 100000 in
theorem q_X2_begin_150 {hE : AH} {r150 : Nat → Int32 → AH → Option (AH)} (hr150 : ∀ (b0 : Nat) (b4 : Int32) (h : AH), r150 b0 b4 h = some hE → JD cX2_begin 5 RX2 "begin" none (4) 150 [(0, .inr (.inr (b0))), (4, .inl (b4))] [] h hE none) {a0 : Nat} {a4 : Int32} {h : AH} (hf : b_X2_begin_150 r150 a0 a4 h = some hE) : JD cX2_begin 5 RX2 "begin" none (4) 150 [(0, .inr (.inr (a0))), (4, .inl (a4))] [] h hE none := by
  unfold b_X2_begin_150 at hf
  obtain ⟨x1, e1, hf⟩ := bnd hf
  obtain ⟨x2, e2, hf⟩ := bnd hf
  have mE : hp_n h ≤ hp_n hE ∧ hp_s h ≤ hp_s hE := by
    by_cases hc : x2 ≤ a4
    · rw [if_pos hc] at hf; exact (q_X2_begin_190 hf).1
    · rw [if_neg hc] at hf; exact (q_X2_begin_162 hr150 hf).1
  refine ⟨by omega, fun X g K ok nmx lev hK en => ?_⟩
  refine tj_iload ok 1 dX2_begin_150 rfl ?_
  refine tj_aload_n ok 0 dX2_begin_152 rfl rfl ?_
  refine tj_getR (k := 7) ok fcX2 (by decide) wm_154 rfl (Or.inl ⟨_, rfl⟩) dX2_begin_153 e1 ?_
  refine tj_getI (k := 11) ok fcX0 (by decide) wm_264 rfl (Or.inl rfl) dX2_begin_156 e2 ?_
  refine tj_icmp_ge (tgt := 190) ok dX2_begin_159 (by decide) (fun hc => ?_) (fun hc => ?_)
  · rw [if_pos hc] at hf
    refine tj_sub (lv' := []) [] rfl ?_
    exact (q_X2_begin_190 hf).2 X g K ok nmx lev hK en
  · rw [if_neg hc] at hf
    exact (q_X2_begin_162 hr150 hf).2 X g K ok nmx lev hK en
def l_X2_begin_150 : Nat → Nat → Int32 → AH → Option (AH)
  | 0 => fun _ _ _ => none
  | n + 1 => fun a0 a4 h => b_X2_begin_150 (l_X2_begin_150 n) a0 a4 h
theorem ql_X2_begin_150 {n : Nat} {a0 : Nat} {a4 : Int32} {h hE : AH} (hf : l_X2_begin_150 n a0 a4 h = some hE) : JD cX2_begin 5 RX2 "begin" none (4) 150 [(0, .inr (.inr (a0))), (4, .inl (a4))] [] h hE none := by
  induction n generalizing a0 a4 h with
  | zero => cases hf
  | succ n ih => exact q_X2_begin_150 (fun _ _ _ hf => ih hf) hf
def b_X2_begin_140 (a0 : Nat) (h : AH) : Option (AH) :=
  (ok_v h a0 2).bind fun x1 => (f_X2_set a0 (0 : Int64) (0 : Int64) (0 : Int64) h).bind fun h2 => l_X2_begin_150 fu_ a0 (0 : Int32) h2
set_option maxHeartbeats 4000000 in
set_option maxRecDepth 100000 in
theorem q_X2_begin_140 {a0 : Nat} {h hE : AH} (hf : b_X2_begin_140 a0 h = some hE) : JD cX2_begin 5 RX2 "begin" none (4) 140 [(0, .inr (.inr (a0)))] [] h hE none := by
  unfold b_X2_begin_140 at hf
  obtain ⟨x1, e1, hf⟩ := bnd hf
  obtain ⟨h2, e2, hf⟩ := bnd hf
  have k2 := c_X2_set e2
  have m2 := (k2 default_g).1
  have J := ql_X2_begin_150 hf
  have mE := J.1
  refine ⟨by omega, fun X g K ok nmx lev hK en => ?_⟩
  refine tj_aload_n ok 0 dX2_begin_140 rfl rfl ?_
  refine tj_lconst (v := 0) ok dX2_begin_141 (by decide) ?_
  refine tj_lconst (v := 0) ok dX2_begin_142 (by decide) ?_
  refine tj_lconst (v := 0) ok dX2_begin_143 (by decide) ?_
  refine tj_callV (rest := ([] : List TV).map (vl g)) (as := [.inr (.inl ((0 : Int64))), .inr (.inl ((0 : Int64))), .inr (.inl ((0 : Int64)))]) ok lev (by omega) fcX2.1 (by decide) rfl (of_if e1).1 (k2 g) (CaX.of en (by omega)) kn_X2_set wm_265 wm_266 wm_267 (rs_ok (Nat.le_of_ble_eq_true rfl)) rfl rfl dX2_begin_144 ?_
  refine tj_iconst (v := 0) ok dX2_begin_147 (by decide) ?_
  refine tj_istore (lv' := [(0, .inr (.inr (a0))), (4, .inl ((0 : Int32)))]) ok dX2_begin_148 (by decide) rfl ?_
  exact J.2 X g K ok nmx lev hK en
def b_X2_begin_110 (r91 : Nat → Int32 → AH → Option (AH)) (a0 : Nat) (a4 : Int32) (h : AH) : Option (AH) :=
  (g_r h a0 2 6).bind fun x1 => (g_r h a0 2 7).bind fun x2 => (g_r h x2 0 9).bind fun x3 => (l_i h x3 a4).bind fun x4 => (l_i h x1 (x4 &&& (3 : Int32))).bind fun x5 => (s_i h x1 (x4 &&& (3 : Int32)) (x5 ||| ((1 : Int32) <<< (a4 &&& 31)))).bind fun h6 => r91 a0 (a4 + (1 : Int32)) h6
set_option maxHeartbeats 4000000 in
set_option maxRecDepth 100000 in
theorem q_X2_begin_110 {hE : AH} {r91 : Nat → Int32 → AH → Option (AH)} (hr91 : ∀ (b0 : Nat) (b4 : Int32) (h : AH), r91 b0 b4 h = some hE → JD cX2_begin 5 RX2 "begin" none (4) 91 [(0, .inr (.inr (b0))), (4, .inl (b4))] [] h hE none) {a0 : Nat} {a4 : Int32} {h : AH} (hf : b_X2_begin_110 r91 a0 a4 h = some hE) : JD cX2_begin 5 RX2 "begin" none (4) 110 [(0, .inr (.inr (a0))), (4, .inl (a4))] [] h hE none := by
  unfold b_X2_begin_110 at hf
  obtain ⟨x1, e1, hf⟩ := bnd hf
  obtain ⟨x2, e2, hf⟩ := bnd hf
  obtain ⟨x3, e3, hf⟩ := bnd hf
  obtain ⟨x4, e4, hf⟩ := bnd hf
  obtain ⟨x5, e5, hf⟩ := bnd hf
  obtain ⟨h6, e6, hf⟩ := bnd hf
  have m6 := nn_si e6
  have J := hr91 _ _ _ hf
  have mE := J.1
  refine ⟨by omega, fun X g K ok nmx lev hK en => ?_⟩
  refine tj_aload_n ok 0 dX2_begin_110 rfl rfl ?_
  refine tj_getR (k := 6) ok fcX2 (by decide) wm_150 rfl (Or.inr ⟨_, rfl⟩) dX2_begin_111 e1 ?_
  refine tj_aload_n ok 0 dX2_begin_114 rfl rfl ?_
  refine tj_getR (k := 7) ok fcX2 (by decide) wm_154 rfl (Or.inl ⟨_, rfl⟩) dX2_begin_115 e2 ?_
  refine tj_getR (k := 9) ok fcX0 (by decide) wm_268 rfl (Or.inr ⟨_, rfl⟩) dX2_begin_118 e3 ?_
  refine tj_iload ok 1 dX2_begin_121 rfl ?_
  refine tj_iaload ok dX2_begin_123 e4 ?_
  refine tj_iconst (v := 3) ok dX2_begin_124 (by decide) ?_
  refine tj_iand ok dX2_begin_125 ?_
  refine tj_dup2ai ok dX2_begin_126 ?_
  refine tj_iaload ok dX2_begin_127 e5 ?_
  refine tj_iconst (v := 1) ok dX2_begin_128 (by decide) ?_
  refine tj_iload ok 1 dX2_begin_129 rfl ?_
  refine tj_ishl ok dX2_begin_131 ?_
  refine tj_ior ok dX2_begin_132 ?_
  refine tj_iastore ok dX2_begin_133 e6 ?_
  refine tj_iinc (lv' := [(0, .inr (.inr (a0))), (4, .inl (a4 + (1 : Int32)))]) ok 1 dX2_begin_134 rfl (rfl) (by decide) rfl ?_
  refine tj_goto (tgt := 91) ok dX2_begin_137 (by decide) ?_
  exact J.2 X g K ok nmx lev hK en
def b_X2_begin_103 (r91 : Nat → Int32 → AH → Option (AH)) (a0 : Nat) (a4 : Int32) (h : AH) : Option (AH) :=
  if (8 : Int32) ≤ a4 then b_X2_begin_140 a0 h else b_X2_begin_110 r91 a0 a4 h
set_option maxHeartbeats 4000000 in
set_option maxRecDepth 100000 in
theorem q_X2_begin_103 {hE : AH} {r91 : Nat → Int32 → AH → Option (AH)} (hr91 : ∀ (b0 : Nat) (b4 : Int32) (h : AH), r91 b0 b4 h = some hE → JD cX2_begin 5 RX2 "begin" none (4) 91 [(0, .inr (.inr (b0))), (4, .inl (b4))] [] h hE none) {a0 : Nat} {a4 : Int32} {h : AH} (hf : b_X2_begin_103 r91 a0 a4 h = some hE) : JD cX2_begin 5 RX2 "begin" none (4) 103 [(0, .inr (.inr (a0))), (4, .inl (a4))] [] h hE none := by
  unfold b_X2_begin_103 at hf
  have mE : hp_n h ≤ hp_n hE ∧ hp_s h ≤ hp_s hE := by
    by_cases hc : (8 : Int32) ≤ a4
    · rw [if_pos hc] at hf; exact (q_X2_begin_140 hf).1
    · rw [if_neg hc] at hf; exact (q_X2_begin_110 hr91 hf).1
  refine ⟨by omega, fun X g K ok nmx lev hK en => ?_⟩
  refine tj_iload ok 1 dX2_begin_103 rfl ?_
  refine tj_bipush (v := 8) ok dX2_begin_105 (by decide) ?_
  refine tj_icmp_ge (tgt := 140) ok dX2_begin_107 (by decide) (fun hc => ?_) (fun hc => ?_)
  · rw [if_pos hc] at hf
    refine tj_sub (lv' := [(0, .inr (.inr (a0)))]) [0] rfl ?_
    exact (q_X2_begin_140 hf).2 X g K ok nmx lev hK en
  · rw [if_neg hc] at hf
    exact (q_X2_begin_110 hr91 hf).2 X g K ok nmx lev hK en
def b_X2_begin_91 (r91 : Nat → Int32 → AH → Option (AH)) (a0 : Nat) (a4 : Int32) (h : AH) : Option (AH) :=
  (g_r h a0 2 7).bind fun x1 => (g_i h x1 0 12).bind fun x2 => if x2 ≤ a4 then b_X2_begin_140 a0 h else b_X2_begin_103 r91 a0 a4 h
set_option maxHeartbeats 4000000 in
set_option maxRecDepth 100000 in
theorem q_X2_begin_91 {hE : AH} {r91 : Nat → Int32 → AH → Option (AH)} (hr91 : ∀ (b0 : Nat) (b4 : Int32) (h : AH), r91 b0 b4 h = some hE → JD cX2_begin 5 RX2 "begin" none (4) 91 [(0, .inr (.inr (b0))), (4, .inl (b4))] [] h hE none) {a0 : Nat} {a4 : Int32} {h : AH} (hf : b_X2_begin_91 r91 a0 a4 h = some hE) : JD cX2_begin 5 RX2 "begin" none (4) 91 [(0, .inr (.inr (a0))), (4, .inl (a4))] [] h hE none := by
  unfold b_X2_begin_91 at hf
  obtain ⟨x1, e1, hf⟩ := bnd hf
  obtain ⟨x2, e2, hf⟩ := bnd hf
  have mE : hp_n h ≤ hp_n hE ∧ hp_s h ≤ hp_s hE := by
    by_cases hc : x2 ≤ a4
    · rw [if_pos hc] at hf; exact (q_X2_begin_140 hf).1
    · rw [if_neg hc] at hf; exact (q_X2_begin_103 hr91 hf).1
  refine ⟨by omega, fun X g K ok nmx lev hK en => ?_⟩
  refine tj_iload ok 1 dX2_begin_91 rfl ?_
  refine tj_aload_n ok 0 dX2_begin_93 rfl rfl ?_
  refine tj_getR (k := 7) ok fcX2 (by decide) wm_154 rfl (Or.inl ⟨_, rfl⟩) dX2_begin_94 e1 ?_
  refine tj_getI (k := 12) ok fcX0 (by decide) wm_269 rfl (Or.inl rfl) dX2_begin_97 e2 ?_
  refine tj_icmp_ge (tgt := 140) ok dX2_begin_100 (by decide) (fun hc => ?_) (fun hc => ?_)
  · rw [if_pos hc] at hf
    refine tj_sub (lv' := [(0, .inr (.inr (a0)))]) [0] rfl ?_
    exact (q_X2_begin_140 hf).2 X g K ok nmx lev hK en
  · rw [if_neg hc] at hf
    exact (q_X2_begin_103 hr91 hf).2 X g K ok nmx lev hK en
def l_X2_begin_91 : Nat → Nat → Int32 → AH → Option (AH)
  | 0 => fun _ _ _ => none
  | n + 1 => fun a0 a4 h => b_X2_begin_91 (l_X2_begin_91 n) a0 a4 h
theorem ql_X2_begin_91 {n : Nat} {a0 : Nat} {a4 : Int32} {h hE : AH} (hf : l_X2_begin_91 n a0 a4 h = some hE) : JD cX2_begin 5 RX2 "begin" none (4) 91 [(0, .inr (.inr (a0))), (4, .inl (a4))] [] h hE none := by
  induction n generalizing a0 a4 h with
  | zero => cases hf
  | succ n ih => exact q_X2_begin_91 (fun _ _ _ hf => ih hf) hf
def b_X2_begin_80 (a0 : Nat) (h : AH) : Option (AH) :=
  (g_r h a0 2 6).bind fun x1 => (f_J7_fill_53178 x1 (0 : Int32) h).bind fun h2 => l_X2_begin_91 fu_ a0 (0 : Int32) h2
set_option maxHeartbeats 4000000 in
set_option maxRecDepth 100000 in
theorem q_X2_begin_80 {a0 : Nat} {h hE : AH} (hf : b_X2_begin_80 a0 h = some hE) : JD cX2_begin 5 RX2 "begin" none (4) 80 [(0, .inr (.inr (a0)))] [] h hE none := by
  unfold b_X2_begin_80 at hf
  obtain ⟨x1, e1, hf⟩ := bnd hf
  obtain ⟨h2, e2, hf⟩ := bnd hf
  have k2 := c_J7_fill_53178 e2
  have m2 := (k2 default_g).1
  have J := ql_X2_begin_91 hf
  have mE := J.1
  refine ⟨by omega, fun X g K ok nmx lev hK en => ?_⟩
  refine tj_aload_n ok 0 dX2_begin_80 rfl rfl ?_
  refine tj_getR (k := 6) ok fcX2 (by decide) wm_150 rfl (Or.inr ⟨_, rfl⟩) dX2_begin_81 e1 ?_
  refine tj_iconst (v := 0) ok dX2_begin_84 (by decide) ?_
  refine tj_callS (rest := ([] : List TV).map (vl g)) (as := [.inr (.inr (x1)), .inl ((0 : Int32))]) ok lev (by omega) (k2 g) (CaX.of en (by omega)) kn_J7_fill_53178 wm_270 wm_218 (rs_ok (Nat.le_of_ble_eq_true rfl)) rfl rfl dX2_begin_85 ?_
  refine tj_iconst (v := 0) ok dX2_begin_88 (by decide) ?_
  refine tj_istore (lv' := [(0, .inr (.inr (a0))), (4, .inl ((0 : Int32)))]) ok dX2_begin_89 (by decide) rfl ?_
  exact J.2 X g K ok nmx lev hK en
def b_X2_begin_57 (r51 : Nat → Int32 → AH → Option (AH)) (a0 : Nat) (a4 : Int32) (h : AH) : Option (AH) :=
  (g_r h a0 2 5).bind fun x1 => (g_r h a0 2 7).bind fun x2 => (ok_v h x2 0).bind fun x3 => (f_X0_actionsOn x2 (4 : Int32) a4 h).bind fun q4 => (s_i q4.2 x1 a4 q4.1).bind fun h5 => r51 a0 (a4 + (1 : Int32)) h5
set_option maxHeartbeats 4000000 in
set_option maxRecDepth 100000 in
theorem q_X2_begin_57 {hE : AH} {r51 : Nat → Int32 → AH → Option (AH)} (hr51 : ∀ (b0 : Nat) (b4 : Int32) (h : AH), r51 b0 b4 h = some hE → JD cX2_begin 5 RX2 "begin" none (4) 51 [(0, .inr (.inr (b0))), (4, .inl (b4))] [] h hE none) {a0 : Nat} {a4 : Int32} {h : AH} (hf : b_X2_begin_57 r51 a0 a4 h = some hE) : JD cX2_begin 5 RX2 "begin" none (4) 57 [(0, .inr (.inr (a0))), (4, .inl (a4))] [] h hE none := by
  unfold b_X2_begin_57 at hf
  obtain ⟨x1, e1, hf⟩ := bnd hf
  obtain ⟨x2, e2, hf⟩ := bnd hf
  obtain ⟨x3, e3, hf⟩ := bnd hf
  obtain ⟨⟨x4, h4⟩, e4, hf⟩ := bnd hf
  try dsimp only at hf
  have k4 := c_X0_actionsOn e4
  have m4 := (k4 default_g).1
  obtain ⟨h5, e5, hf⟩ := bnd hf
  have m5 := nn_si e5
  have J := hr51 _ _ _ hf
  have mE := J.1
  refine ⟨by omega, fun X g K ok nmx lev hK en => ?_⟩
  refine tj_aload_n ok 0 dX2_begin_57 rfl rfl ?_
  refine tj_getR (k := 5) ok fcX2 (by decide) wm_149 rfl (Or.inr ⟨_, rfl⟩) dX2_begin_58 e1 ?_
  refine tj_iload ok 1 dX2_begin_61 rfl ?_
  refine tj_aload_n ok 0 dX2_begin_63 rfl rfl ?_
  refine tj_getR (k := 7) ok fcX2 (by decide) wm_154 rfl (Or.inl ⟨_, rfl⟩) dX2_begin_64 e2 ?_
  refine tj_iconst (v := 4) ok dX2_begin_67 (by decide) ?_
  refine tj_iload ok 1 dX2_begin_68 rfl ?_
  refine tj_callV (rest := ([.inl (a4), .inr (.inr (x1))] : List TV).map (vl g)) (as := [.inl ((4 : Int32)), .inl (a4)]) ok lev (by omega) fcX0.1 (by decide) rfl (of_if e3).1 (k4 g) (CaX.of en (by omega)) kn_X0_actionsOn wm_271 wm_272 wm_273 (rs_ok (Nat.le_of_ble_eq_true rfl)) rfl rfl dX2_begin_70 ?_
  refine tj_iastore ok dX2_begin_73 e5 ?_
  refine tj_iinc (lv' := [(0, .inr (.inr (a0))), (4, .inl (a4 + (1 : Int32)))]) ok 1 dX2_begin_74 rfl (rfl) (by decide) rfl ?_
  refine tj_goto (tgt := 51) ok dX2_begin_77 (by decide) ?_
  exact J.2 X g K ok nmx lev hK en
def b_X2_begin_51 (r51 : Nat → Int32 → AH → Option (AH)) (a0 : Nat) (a4 : Int32) (h : AH) : Option (AH) :=
  if (2 : Int32) ≤ a4 then b_X2_begin_80 a0 h else b_X2_begin_57 r51 a0 a4 h
set_option maxHeartbeats 4000000 in
set_option maxRecDepth 100000 in
theorem q_X2_begin_51 {hE : AH} {r51 : Nat → Int32 → AH → Option (AH)} (hr51 : ∀ (b0 : Nat) (b4 : Int32) (h : AH), r51 b0 b4 h = some hE → JD cX2_begin 5 RX2 "begin" none (4) 51 [(0, .inr (.inr (b0))), (4, .inl (b4))] [] h hE none) {a0 : Nat} {a4 : Int32} {h : AH} (hf : b_X2_begin_51 r51 a0 a4 h = some hE) : JD cX2_begin 5 RX2 "begin" none (4) 51 [(0, .inr (.inr (a0))), (4, .inl (a4))] [] h hE none := by
  unfold b_X2_begin_51 at hf
  have mE : hp_n h ≤ hp_n hE ∧ hp_s h ≤ hp_s hE := by
    by_cases hc : (2 : Int32) ≤ a4
    · rw [if_pos hc] at hf; exact (q_X2_begin_80 hf).1
    · rw [if_neg hc] at hf; exact (q_X2_begin_57 hr51 hf).1
  refine ⟨by omega, fun X g K ok nmx lev hK en => ?_⟩
  refine tj_iload ok 1 dX2_begin_51 rfl ?_
  refine tj_iconst (v := 2) ok dX2_begin_53 (by decide) ?_
  refine tj_icmp_ge (tgt := 80) ok dX2_begin_54 (by decide) (fun hc => ?_) (fun hc => ?_)
  · rw [if_pos hc] at hf
    refine tj_sub (lv' := [(0, .inr (.inr (a0)))]) [0] rfl ?_
    exact (q_X2_begin_80 hf).2 X g K ok nmx lev hK en
  · rw [if_neg hc] at hf
    exact (q_X2_begin_57 hr51 hf).2 X g K ok nmx lev hK en
def l_X2_begin_51 : Nat → Nat → Int32 → AH → Option (AH)
  | 0 => fun _ _ _ => none
  | n + 1 => fun a0 a4 h => b_X2_begin_51 (l_X2_begin_51 n) a0 a4 h
theorem ql_X2_begin_51 {n : Nat} {a0 : Nat} {a4 : Int32} {h hE : AH} (hf : l_X2_begin_51 n a0 a4 h = some hE) : JD cX2_begin 5 RX2 "begin" none (4) 51 [(0, .inr (.inr (a0))), (4, .inl (a4))] [] h hE none := by
  induction n generalizing a0 a4 h with
  | zero => cases hf
  | succ n ih => exact q_X2_begin_51 (fun _ _ _ hf => ih hf) hf
def b_X2_begin_48 (a0 : Nat) (h : AH) : Option (AH) :=
  l_X2_begin_51 fu_ a0 (0 : Int32) h
set_option maxHeartbeats 4000000 in
set_option maxRecDepth 100000 in
theorem q_X2_begin_48 {a0 : Nat} {h hE : AH} (hf : b_X2_begin_48 a0 h = some hE) : JD cX2_begin 5 RX2 "begin" none (4) 48 [(0, .inr (.inr (a0)))] [] h hE none := by
  unfold b_X2_begin_48 at hf
  have J := ql_X2_begin_51 hf
  have mE := J.1
  refine ⟨by omega, fun X g K ok nmx lev hK en => ?_⟩
  refine tj_iconst (v := 0) ok dX2_begin_48 (by decide) ?_
  refine tj_istore (lv' := [(0, .inr (.inr (a0))), (4, .inl ((0 : Int32)))]) ok dX2_begin_49 (by decide) rfl ?_
  exact J.2 X g K ok nmx lev hK en
def b_X2_begin_25 (r18 : Nat → Int32 → AH → Option (AH)) (a0 : Nat) (a4 : Int32) (h : AH) : Option (AH) :=
  (g_r h a0 2 4).bind fun x1 => (g_r h a0 2 7).bind fun x2 => (ok_v h x2 0).bind fun x3 => (f_X0_actionsOn x2 (1 : Int32) a4 h).bind fun q4 => (s_i q4.2 x1 a4 q4.1).bind fun h5 => r18 a0 (a4 + (1 : Int32)) h5
set_option maxHeartbeats 4000000 in
set_option maxRecDepth 100000 in
theorem q_X2_begin_25 {hE : AH} {r18 : Nat → Int32 → AH → Option (AH)} (hr18 : ∀ (b0 : Nat) (b4 : Int32) (h : AH), r18 b0 b4 h = some hE → JD cX2_begin 5 RX2 "begin" none (4) 18 [(0, .inr (.inr (b0))), (4, .inl (b4))] [] h hE none) {a0 : Nat} {a4 : Int32} {h : AH} (hf : b_X2_begin_25 r18 a0 a4 h = some hE) : JD cX2_begin 5 RX2 "begin" none (4) 25 [(0, .inr (.inr (a0))), (4, .inl (a4))] [] h hE none := by
  unfold b_X2_begin_25 at hf
  obtain ⟨x1, e1, hf⟩ := bnd hf
  obtain ⟨x2, e2, hf⟩ := bnd hf
  obtain ⟨x3, e3, hf⟩ := bnd hf
  obtain ⟨⟨x4, h4⟩, e4, hf⟩ := bnd hf
  try dsimp only at hf
  have k4 := c_X0_actionsOn e4
  have m4 := (k4 default_g).1
  obtain ⟨h5, e5, hf⟩ := bnd hf
  have m5 := nn_si e5
  have J := hr18 _ _ _ hf
  have mE := J.1
  refine ⟨by omega, fun X g K ok nmx lev hK en => ?_⟩
  refine tj_aload_n ok 0 dX2_begin_25 rfl rfl ?_
  refine tj_getR (k := 4) ok fcX2 (by decide) wm_148 rfl (Or.inr ⟨_, rfl⟩) dX2_begin_26 e1 ?_
  refine tj_iload ok 1 dX2_begin_29 rfl ?_
  refine tj_aload_n ok 0 dX2_begin_31 rfl rfl ?_
  refine tj_getR (k := 7) ok fcX2 (by decide) wm_154 rfl (Or.inl ⟨_, rfl⟩) dX2_begin_32 e2 ?_
  refine tj_iconst (v := 1) ok dX2_begin_35 (by decide) ?_
  refine tj_iload ok 1 dX2_begin_36 rfl ?_
  refine tj_callV (rest := ([.inl (a4), .inr (.inr (x1))] : List TV).map (vl g)) (as := [.inl ((1 : Int32)), .inl (a4)]) ok lev (by omega) fcX0.1 (by decide) rfl (of_if e3).1 (k4 g) (CaX.of en (by omega)) kn_X0_actionsOn wm_271 wm_272 wm_273 (rs_ok (Nat.le_of_ble_eq_true rfl)) rfl rfl dX2_begin_38 ?_
  refine tj_iastore ok dX2_begin_41 e5 ?_
  refine tj_iinc (lv' := [(0, .inr (.inr (a0))), (4, .inl (a4 + (1 : Int32)))]) ok 1 dX2_begin_42 rfl (rfl) (by decide) rfl ?_
  refine tj_goto (tgt := 18) ok dX2_begin_45 (by decide) ?_
  exact J.2 X g K ok nmx lev hK en
def b_X2_begin_18 (r18 : Nat → Int32 → AH → Option (AH)) (a0 : Nat) (a4 : Int32) (h : AH) : Option (AH) :=
  if (6 : Int32) ≤ a4 then b_X2_begin_48 a0 h else b_X2_begin_25 r18 a0 a4 h
set_option maxHeartbeats 4000000 in
set_option maxRecDepth 100000 in
theorem q_X2_begin_18 {hE : AH} {r18 : Nat → Int32 → AH → Option (AH)} (hr18 : ∀ (b0 : Nat) (b4 : Int32) (h : AH), r18 b0 b4 h = some hE → JD cX2_begin 5 RX2 "begin" none (4) 18 [(0, .inr (.inr (b0))), (4, .inl (b4))] [] h hE none) {a0 : Nat} {a4 : Int32} {h : AH} (hf : b_X2_begin_18 r18 a0 a4 h = some hE) : JD cX2_begin 5 RX2 "begin" none (4) 18 [(0, .inr (.inr (a0))), (4, .inl (a4))] [] h hE none := by
  unfold b_X2_begin_18 at hf
  have mE : hp_n h ≤ hp_n hE ∧ hp_s h ≤ hp_s hE := by
    by_cases hc : (6 : Int32) ≤ a4
    · rw [if_pos hc] at hf; exact (q_X2_begin_48 hf).1
    · rw [if_neg hc] at hf; exact (q_X2_begin_25 hr18 hf).1
  refine ⟨by omega, fun X g K ok nmx lev hK en => ?_⟩
  refine tj_iload ok 1 dX2_begin_18 rfl ?_
  refine tj_bipush (v := 6) ok dX2_begin_20 (by decide) ?_
  refine tj_icmp_ge (tgt := 48) ok dX2_begin_22 (by decide) (fun hc => ?_) (fun hc => ?_)
  · rw [if_pos hc] at hf
    refine tj_sub (lv' := [(0, .inr (.inr (a0)))]) [0] rfl ?_
    exact (q_X2_begin_48 hf).2 X g K ok nmx lev hK en
  · rw [if_neg hc] at hf
    exact (q_X2_begin_25 hr18 hf).2 X g K ok nmx lev hK en
def l_X2_begin_18 : Nat → Nat → Int32 → AH → Option (AH)
  | 0 => fun _ _ _ => none
  | n + 1 => fun a0 a4 h => b_X2_begin_18 (l_X2_begin_18 n) a0 a4 h
theorem ql_X2_begin_18 {n : Nat} {a0 : Nat} {a4 : Int32} {h hE : AH} (hf : l_X2_begin_18 n a0 a4 h = some hE) : JD cX2_begin 5 RX2 "begin" none (4) 18 [(0, .inr (.inr (a0))), (4, .inl (a4))] [] h hE none := by
  induction n generalizing a0 a4 h with
  | zero => cases hf
  | succ n ih => exact q_X2_begin_18 (fun _ _ _ hf => ih hf) hf
def b_X2_begin_0 (a0 : Nat) (a1 : Nat) (a2 : Int32) (a3 : Int32) (h : AH) : Option (AH) :=
  (p_r h a0 2 7 a1).bind fun h1 => (p_i h1 a0 2 3 a2).bind fun h2 => (p_i h2 a0 2 8 a3).bind fun h3 => l_X2_begin_18 fu_ a0 (0 : Int32) h3
set_option maxHeartbeats 4000000 in
set_option maxRecDepth 100000 in
theorem q_X2_begin_0 {a0 : Nat} {a1 : Nat} {a2 : Int32} {a3 : Int32} {h hE : AH} (hf : b_X2_begin_0 a0 a1 a2 a3 h = some hE) : JD cX2_begin 5 RX2 "begin" none (4) 0 [(0, .inr (.inr (a0))), (1, .inr (.inr (a1))), (2, .inl (a2)), (3, .inl (a3))] [] h hE none := by
  unfold b_X2_begin_0 at hf
  obtain ⟨h1, e1, hf⟩ := bnd hf
  have m1 := nn_pr e1
  obtain ⟨h2, e2, hf⟩ := bnd hf
  have m2 := nn_pi e2
  obtain ⟨h3, e3, hf⟩ := bnd hf
  have m3 := nn_pi e3
  have J := ql_X2_begin_18 hf
  have mE := J.1
  refine ⟨by omega, fun X g K ok nmx lev hK en => ?_⟩
  refine tj_aload_n ok 0 dX2_begin_0 rfl rfl ?_
  refine tj_aload_n ok 1 dX2_begin_1 rfl rfl ?_
  refine tj_putR (k := 7) ok fcX2 (by decide) wm_154 rfl (Or.inl rfl) (Or.inl ⟨_, rfl⟩) dX2_begin_2 e1 ?_
  refine tj_aload_n ok 0 dX2_begin_5 rfl rfl ?_
  refine tj_iload_n ok 2 dX2_begin_6 rfl rfl ?_
  refine tj_putI (k := 3) ok fcX2 (by decide) wm_147 rfl (Or.inl rfl) rfl dX2_begin_7 e2 ?_
  refine tj_aload_n ok 0 dX2_begin_10 rfl rfl ?_
  refine tj_iload_n ok 3 dX2_begin_11 rfl rfl ?_
  refine tj_putI (k := 8) ok fcX2 (by decide) wm_155 rfl (Or.inl rfl) rfl dX2_begin_12 e3 ?_
  refine tj_iconst (v := 0) ok dX2_begin_15 (by decide) ?_
  refine tj_istore (lv' := [(0, .inr (.inr (a0))), (1, .inr (.inr (a1))), (2, .inl (a2)), (3, .inl (a3)), (4, .inl ((0 : Int32)))]) ok dX2_begin_16 (by decide) rfl ?_
  refine tj_sub (lv' := [(0, .inr (.inr (a0))), (4, .inl ((0 : Int32)))]) [0, 4] rfl ?_
  exact J.2 X g K ok nmx lev hK en
def f_X2_begin (a0 : Nat) (a1 : Nat) (a2 : Int32) (a3 : Int32) (h : AH) : Option (AH) := b_X2_begin_0  a0 a1 a2 a3 h
theorem c_X2_begin {a0 : Nat} {a1 : Nat} {a2 : Int32} {a3 : Int32} {h hE : AH} (hf : f_X2_begin a0 a1 a2 a3 h = some hE) : ∀ g : GT, CM g (4) yX2_begin cX2_begin 5 none h [.inr (.inr (a0)), .inr (.inr (a1)), .inl (a2), .inl (a3)] hE none :=
  CM.ofJ (by decide) (by show _ ≤ 5; exact Nat.le_of_ble_eq_true rfl) (q_X2_begin_0 hf)
/-! ===== LitmusHouse$Machine.doneActions()I ===== -/
def b_X2_doneActions_0 (a0 : Nat) (h : AH) : Option (Int32 × AH) :=
  (g_j h a0 2 0).bind fun x1 => some (((us_j x1 (47 : Int32)).toInt32) &&& (255 : Int32), h)
set_option maxHeartbeats 4000000 in
set_option maxRecDepth 100000 in
theorem q_X2_doneActions_0 {a0 : Nat} {h hE : AH} {v : Int32} (hf : b_X2_doneActions_0 a0 h = some (v, hE)) : JD cX2_doneActions 1 RX2 "doneActions" (some .int) (2) 0 [(0, .inr (.inr (a0)))] [] h hE (some (.inl (v))) := by
  unfold b_X2_doneActions_0 at hf
  obtain ⟨x1, e1, hf⟩ := bnd hf
  obtain ⟨hv, hh⟩ := Prod.mk.inj (Option.some.inj hf)
  subst hv
  subst hh
  have mE : hp_n h ≤ hp_n h ∧ hp_s h ≤ hp_s h := ⟨Nat.le_refl _, Nat.le_refl _⟩
  refine ⟨by omega, fun X g K ok nmx lev hK en => ?_⟩
  refine tj_aload_n ok 0 dX2_doneActions_0 rfl rfl ?_
  refine tj_getJ (k := 0) ok fcX2 (by decide) wm_144 rfl rfl dX2_doneActions_1 e1 ?_
  refine tj_bipush (v := 47) ok dX2_doneActions_4 (by decide) ?_
  refine tj_lushr ok dX2_doneActions_6 ?_
  refine tj_l2i ok dX2_doneActions_7 ?_
  refine tj_sipush (v := 255) ok dX2_doneActions_8 (by decide) ?_
  refine tj_iand ok dX2_doneActions_11 ?_
  exact tj_ireturn ok en dX2_doneActions_12
def f_X2_doneActions (a0 : Nat) (h : AH) : Option (Int32 × AH) := b_X2_doneActions_0  a0 h
theorem c_X2_doneActions {a0 : Nat} {h hE : AH} {v : Int32} (hf : f_X2_doneActions a0 h = some (v, hE)) : ∀ g : GT, CM g (2) yX2_doneActions cX2_doneActions 1 (some .int) h [.inr (.inr (a0))] hE (some (.inl (v))) :=
  CM.ofJ (by decide) (by show _ ≤ 1; exact Nat.le_of_ble_eq_true rfl) (q_X2_doneActions_0 hf)
/-! ===== LitmusHouse$Machine.earlierThan(I)I ===== -/
def b_X2_earlierThan_0 (a0 : Nat) (a1 : Int32) (h : AH) : Option (Int32 × AH) :=
  (g_j h a0 2 2).bind fun x1 => some (((us_j x1 ((8 : Int32) * a1)).toInt32) &&& (255 : Int32), h)
set_option maxHeartbeats 4000000 in
set_option maxRecDepth 100000 in
theorem q_X2_earlierThan_0 {a0 : Nat} {a1 : Int32} {h hE : AH} {v : Int32} (hf : b_X2_earlierThan_0 a0 a1 h = some (v, hE)) : JD cX2_earlierThan 2 RX2 "earlierThan" (some .int) (2) 0 [(0, .inr (.inr (a0))), (1, .inl (a1))] [] h hE (some (.inl (v))) := by
  unfold b_X2_earlierThan_0 at hf
  obtain ⟨x1, e1, hf⟩ := bnd hf
  obtain ⟨hv, hh⟩ := Prod.mk.inj (Option.some.inj hf)
  subst hv
  subst hh
  have mE : hp_n h ≤ hp_n h ∧ hp_s h ≤ hp_s h := ⟨Nat.le_refl _, Nat.le_refl _⟩
  refine ⟨by omega, fun X g K ok nmx lev hK en => ?_⟩
  refine tj_aload_n ok 0 dX2_earlierThan_0 rfl rfl ?_
  refine tj_getJ (k := 2) ok fcX2 (by decide) wm_146 rfl rfl dX2_earlierThan_1 e1 ?_
  refine tj_bipush (v := 8) ok dX2_earlierThan_4 (by decide) ?_
  refine tj_iload_n ok 1 dX2_earlierThan_6 rfl rfl ?_
  refine tj_imul ok dX2_earlierThan_7 ?_
  refine tj_lushr ok dX2_earlierThan_8 ?_
  refine tj_l2i ok dX2_earlierThan_9 ?_
  refine tj_sipush (v := 255) ok dX2_earlierThan_10 (by decide) ?_
  refine tj_iand ok dX2_earlierThan_13 ?_
  exact tj_ireturn ok en dX2_earlierThan_14
def f_X2_earlierThan (a0 : Nat) (a1 : Int32) (h : AH) : Option (Int32 × AH) := b_X2_earlierThan_0  a0 a1 h
theorem c_X2_earlierThan {a0 : Nat} {a1 : Int32} {h hE : AH} {v : Int32} (hf : f_X2_earlierThan a0 a1 h = some (v, hE)) : ∀ g : GT, CM g (2) yX2_earlierThan cX2_earlierThan 2 (some .int) h [.inr (.inr (a0)), .inl (a1)] hE (some (.inl (v))) :=
  CM.ofJ (by decide) (by show _ ≤ 2; exact Nat.le_of_ble_eq_true rfl) (q_X2_earlierThan_0 hf)
/-! ===== LitmusHouse$Machine.hasPublished(I)Z ===== -/
def b_X2_hasPublished_21 (s0 : Int32) (h : AH) : Option (Int32 × AH) :=
  ok_z s0 h
set_option maxHeartbeats 4000000 in
set_option maxRecDepth 100000 in
theorem q_X2_hasPublished_21 {s0 : Int32} {h hE : AH} {v : Int32} (hf : b_X2_hasPublished_21 s0 h = some (v, hE)) : JD cX2_hasPublished 2 RX2 "hasPublished" (some .boolean) (2) 21 [] [.inl (s0)] h hE (some (.inl (v))) := by
  unfold b_X2_hasPublished_21 at hf
  have mE : hp_n h ≤ hp_n hE ∧ hp_s h ≤ hp_s hE := by obtain ⟨-, q⟩ := of_if hf; cases q; exact ⟨Nat.le_refl _, Nat.le_refl _⟩
  refine ⟨by omega, fun X g K ok nmx lev hK en => ?_⟩
  exact tj_zreturn ok hf en dX2_hasPublished_21
def b_X2_hasPublished_20  (h : AH) : Option (Int32 × AH) :=
  b_X2_hasPublished_21 (0 : Int32) h
set_option maxHeartbeats 4000000 in
set_option maxRecDepth 100000 in
theorem q_X2_hasPublished_20 {h hE : AH} {v : Int32} (hf : b_X2_hasPublished_20  h = some (v, hE)) : JD cX2_hasPublished 2 RX2 "hasPublished" (some .boolean) (2) 20 [] [] h hE (some (.inl (v))) := by
  unfold b_X2_hasPublished_20 at hf
  have J := q_X2_hasPublished_21 hf
  have mE := J.1
  refine ⟨by omega, fun X g K ok nmx lev hK en => ?_⟩
  refine tj_iconst (v := 0) ok dX2_hasPublished_20 (by decide) ?_
  exact J.2 X g K ok nmx lev hK en
def b_X2_hasPublished_16  (h : AH) : Option (Int32 × AH) :=
  b_X2_hasPublished_21 (1 : Int32) h
set_option maxHeartbeats 4000000 in
set_option maxRecDepth 100000 in
theorem q_X2_hasPublished_16 {h hE : AH} {v : Int32} (hf : b_X2_hasPublished_16  h = some (v, hE)) : JD cX2_hasPublished 2 RX2 "hasPublished" (some .boolean) (2) 16 [] [] h hE (some (.inl (v))) := by
  unfold b_X2_hasPublished_16 at hf
  have J := q_X2_hasPublished_21 hf
  have mE := J.1
  refine ⟨by omega, fun X g K ok nmx lev hK en => ?_⟩
  refine tj_iconst (v := 1) ok dX2_hasPublished_16 (by decide) ?_
  refine tj_goto (tgt := 21) ok dX2_hasPublished_17 (by decide) ?_
  exact J.2 X g K ok nmx lev hK en
def b_X2_hasPublished_0 (a0 : Nat) (a1 : Int32) (h : AH) : Option (Int32 × AH) :=
  (g_j h a0 2 0).bind fun x1 => if (lg_cmp ((us_j x1 ((42 : Int32) + a1)) &&& (1 : Int64)) (0 : Int64)) = 0 then b_X2_hasPublished_20 h else b_X2_hasPublished_16 h
set_option maxHeartbeats 4000000 in
set_option maxRecDepth 100000 in
theorem q_X2_hasPublished_0 {a0 : Nat} {a1 : Int32} {h hE : AH} {v : Int32} (hf : b_X2_hasPublished_0 a0 a1 h = some (v, hE)) : JD cX2_hasPublished 2 RX2 "hasPublished" (some .boolean) (2) 0 [(0, .inr (.inr (a0))), (1, .inl (a1))] [] h hE (some (.inl (v))) := by
  unfold b_X2_hasPublished_0 at hf
  obtain ⟨x1, e1, hf⟩ := bnd hf
  have mE : hp_n h ≤ hp_n hE ∧ hp_s h ≤ hp_s hE := by
    by_cases hc : (lg_cmp ((us_j x1 ((42 : Int32) + a1)) &&& (1 : Int64)) (0 : Int64)) = 0
    · rw [if_pos hc] at hf; exact (q_X2_hasPublished_20 hf).1
    · rw [if_neg hc] at hf; exact (q_X2_hasPublished_16 hf).1
  refine ⟨by omega, fun X g K ok nmx lev hK en => ?_⟩
  refine tj_aload_n ok 0 dX2_hasPublished_0 rfl rfl ?_
  refine tj_getJ (k := 0) ok fcX2 (by decide) wm_144 rfl rfl dX2_hasPublished_1 e1 ?_
  refine tj_bipush (v := 42) ok dX2_hasPublished_4 (by decide) ?_
  refine tj_iload_n ok 1 dX2_hasPublished_6 rfl rfl ?_
  refine tj_iadd ok dX2_hasPublished_7 ?_
  refine tj_lushr ok dX2_hasPublished_8 ?_
  refine tj_lconst (v := 1) ok dX2_hasPublished_9 (by decide) ?_
  refine tj_land ok dX2_hasPublished_10 ?_
  refine tj_lconst (v := 0) ok dX2_hasPublished_11 (by decide) ?_
  refine tj_lcmp ok dX2_hasPublished_12 ?_
  refine tj_if_eq (tgt := 20) ok dX2_hasPublished_13 (by decide) (fun hc => ?_) (fun hc => ?_)
  · rw [if_pos hc] at hf
    refine tj_sub (lv' := []) [] rfl ?_
    exact (q_X2_hasPublished_20 hf).2 X g K ok nmx lev hK en
  · rw [if_neg hc] at hf
    refine tj_sub (lv' := []) [] rfl ?_
    exact (q_X2_hasPublished_16 hf).2 X g K ok nmx lev hK en
def f_X2_hasPublished (a0 : Nat) (a1 : Int32) (h : AH) : Option (Int32 × AH) := b_X2_hasPublished_0  a0 a1 h
theorem c_X2_hasPublished {a0 : Nat} {a1 : Int32} {h hE : AH} {v : Int32} (hf : f_X2_hasPublished a0 a1 h = some (v, hE)) : ∀ g : GT, CM g (2) yX2_hasPublished cX2_hasPublished 2 (some .boolean) h [.inr (.inr (a0)), .inl (a1)] hE (some (.inl (v))) :=
  CM.ofJ (by decide) (by show _ ≤ 2; exact Nat.le_of_ble_eq_true rfl) (q_X2_hasPublished_0 hf)
/-! ===== LitmusHouse$Machine.isVolatile(I)Z ===== -/
def b_X2_isVolatile_16 (s0 : Int32) (h : AH) : Option (Int32 × AH) :=
  ok_z s0 h
set_option maxHeartbeats 4000000 in
set_option maxRecDepth 100000 in
theorem q_X2_isVolatile_16 {s0 : Int32} {h hE : AH} {v : Int32} (hf : b_X2_isVolatile_16 s0 h = some (v, hE)) : JD cX2_isVolatile 2 RX2 "isVolatile" (some .boolean) (2) 16 [] [.inl (s0)] h hE (some (.inl (v))) := by
  unfold b_X2_isVolatile_16 at hf
  have mE : hp_n h ≤ hp_n hE ∧ hp_s h ≤ hp_s hE := by obtain ⟨-, q⟩ := of_if hf; cases q; exact ⟨Nat.le_refl _, Nat.le_refl _⟩
  refine ⟨by omega, fun X g K ok nmx lev hK en => ?_⟩
  exact tj_zreturn ok hf en dX2_isVolatile_16
def b_X2_isVolatile_15  (h : AH) : Option (Int32 × AH) :=
  b_X2_isVolatile_16 (0 : Int32) h
set_option maxHeartbeats 4000000 in
set_option maxRecDepth 100000 in
theorem q_X2_isVolatile_15 {h hE : AH} {v : Int32} (hf : b_X2_isVolatile_15  h = some (v, hE)) : JD cX2_isVolatile 2 RX2 "isVolatile" (some .boolean) (2) 15 [] [] h hE (some (.inl (v))) := by
  unfold b_X2_isVolatile_15 at hf
  have J := q_X2_isVolatile_16 hf
  have mE := J.1
  refine ⟨by omega, fun X g K ok nmx lev hK en => ?_⟩
  refine tj_iconst (v := 0) ok dX2_isVolatile_15 (by decide) ?_
  exact J.2 X g K ok nmx lev hK en
def b_X2_isVolatile_11  (h : AH) : Option (Int32 × AH) :=
  b_X2_isVolatile_16 (1 : Int32) h
set_option maxHeartbeats 4000000 in
set_option maxRecDepth 100000 in
theorem q_X2_isVolatile_11 {h hE : AH} {v : Int32} (hf : b_X2_isVolatile_11  h = some (v, hE)) : JD cX2_isVolatile 2 RX2 "isVolatile" (some .boolean) (2) 11 [] [] h hE (some (.inl (v))) := by
  unfold b_X2_isVolatile_11 at hf
  have J := q_X2_isVolatile_16 hf
  have mE := J.1
  refine ⟨by omega, fun X g K ok nmx lev hK en => ?_⟩
  refine tj_iconst (v := 1) ok dX2_isVolatile_11 (by decide) ?_
  refine tj_goto (tgt := 16) ok dX2_isVolatile_12 (by decide) ?_
  exact J.2 X g K ok nmx lev hK en
def b_X2_isVolatile_0 (a0 : Nat) (a1 : Int32) (h : AH) : Option (Int32 × AH) :=
  (g_i h a0 2 8).bind fun x1 => if ((x1 >>> (a1 &&& 31)) &&& (1 : Int32)) = 0 then b_X2_isVolatile_15 h else b_X2_isVolatile_11 h
set_option maxHeartbeats 4000000 in
set_option maxRecDepth 100000 in
theorem q_X2_isVolatile_0 {a0 : Nat} {a1 : Int32} {h hE : AH} {v : Int32} (hf : b_X2_isVolatile_0 a0 a1 h = some (v, hE)) : JD cX2_isVolatile 2 RX2 "isVolatile" (some .boolean) (2) 0 [(0, .inr (.inr (a0))), (1, .inl (a1))] [] h hE (some (.inl (v))) := by
  unfold b_X2_isVolatile_0 at hf
  obtain ⟨x1, e1, hf⟩ := bnd hf
  have mE : hp_n h ≤ hp_n hE ∧ hp_s h ≤ hp_s hE := by
    by_cases hc : ((x1 >>> (a1 &&& 31)) &&& (1 : Int32)) = 0
    · rw [if_pos hc] at hf; exact (q_X2_isVolatile_15 hf).1
    · rw [if_neg hc] at hf; exact (q_X2_isVolatile_11 hf).1
  refine ⟨by omega, fun X g K ok nmx lev hK en => ?_⟩
  refine tj_aload_n ok 0 dX2_isVolatile_0 rfl rfl ?_
  refine tj_getI (k := 8) ok fcX2 (by decide) wm_155 rfl (Or.inl rfl) dX2_isVolatile_1 e1 ?_
  refine tj_iload_n ok 1 dX2_isVolatile_4 rfl rfl ?_
  refine tj_ishr ok dX2_isVolatile_5 ?_
  refine tj_iconst (v := 1) ok dX2_isVolatile_6 (by decide) ?_
  refine tj_iand ok dX2_isVolatile_7 ?_
  refine tj_if_eq (tgt := 15) ok dX2_isVolatile_8 (by decide) (fun hc => ?_) (fun hc => ?_)
  · rw [if_pos hc] at hf
    refine tj_sub (lv' := []) [] rfl ?_
    exact (q_X2_isVolatile_15 hf).2 X g K ok nmx lev hK en
  · rw [if_neg hc] at hf
    refine tj_sub (lv' := []) [] rfl ?_
    exact (q_X2_isVolatile_11 hf).2 X g K ok nmx lev hK en
def f_X2_isVolatile (a0 : Nat) (a1 : Int32) (h : AH) : Option (Int32 × AH) := b_X2_isVolatile_0  a0 a1 h
theorem c_X2_isVolatile {a0 : Nat} {a1 : Int32} {h hE : AH} {v : Int32} (hf : f_X2_isVolatile a0 a1 h = some (v, hE)) : ∀ g : GT, CM g (2) yX2_isVolatile cX2_isVolatile 2 (some .boolean) h [.inr (.inr (a0)), .inl (a1)] hE (some (.inl (v))) :=
  CM.ofJ (by decide) (by show _ ≤ 2; exact Nat.le_of_ble_eq_true rfl) (q_X2_isVolatile_0 hf)
/-! ===== LitmusHouse$Machine.aheadOf(III)I ===== -/
def b_X2_aheadOf_193 (a7 : Int32) (h : AH) : Option (Int32 × AH) :=
  some (a7, h)
set_option maxHeartbeats 4000000 in
set_option maxRecDepth 100000 in
theorem q_X2_aheadOf_193 {a7 : Int32} {h hE : AH} {v : Int32} (hf : b_X2_aheadOf_193 a7 h = some (v, hE)) : JD cX2_aheadOf 9 RX2 "aheadOf" (some .int) (3) 193 [(7, .inl (a7))] [] h hE (some (.inl (v))) := by
  unfold b_X2_aheadOf_193 at hf
  obtain ⟨hv, hh⟩ := Prod.mk.inj (Option.some.inj hf)
  subst hv
  subst hh
  have mE : hp_n h ≤ hp_n h ∧ hp_s h ≤ hp_s h := ⟨Nat.le_refl _, Nat.le_refl _⟩
  refine ⟨by omega, fun X g K ok nmx lev hK en => ?_⟩
  refine tj_iload ok 0 dX2_aheadOf_193 rfl ?_
  exact tj_ireturn ok en dX2_aheadOf_195
def b_X2_aheadOf_187 (r159 : Nat → Int32 → Int32 → Int32 → AH → Option (Int32 × AH)) (a0 : Nat) (a4 : Int32) (a7 : Int32) (a8 : Int32) (h : AH) : Option (Int32 × AH) :=
  r159 a0 a4 a7 (a8 + (1 : Int32)) h
set_option maxHeartbeats 4000000 in
set_option maxRecDepth 100000 in
theorem q_X2_aheadOf_187 {hE : AH} {v : Int32} {r159 : Nat → Int32 → Int32 → Int32 → AH → Option (Int32 × AH)} (hr159 : ∀ (b0 : Nat) (b4 : Int32) (b7 : Int32) (b8 : Int32) (h : AH), r159 b0 b4 b7 b8 h = some (v, hE) → JD cX2_aheadOf 9 RX2 "aheadOf" (some .int) (3) 159 [(0, .inr (.inr (b0))), (4, .inl (b4)), (7, .inl (b7)), (8, .inl (b8))] [] h hE (some (.inl (v)))) {a0 : Nat} {a4 : Int32} {a7 : Int32} {a8 : Int32} {h : AH} (hf : b_X2_aheadOf_187 r159 a0 a4 a7 a8 h = some (v, hE)) : JD cX2_aheadOf 9 RX2 "aheadOf" (some .int) (3) 187 [(0, .inr (.inr (a0))), (4, .inl (a4)), (7, .inl (a7)), (8, .inl (a8))] [] h hE (some (.inl (v))) := by
  unfold b_X2_aheadOf_187 at hf
  have J := hr159 _ _ _ _ _ hf
  have mE := J.1
  refine ⟨by omega, fun X g K ok nmx lev hK en => ?_⟩
  refine tj_iinc (lv' := [(0, .inr (.inr (a0))), (4, .inl (a4)), (7, .inl (a7)), (8, .inl (a8 + (1 : Int32)))]) ok 3 dX2_aheadOf_187 rfl (rfl) (by decide) rfl ?_
  refine tj_goto (tgt := 159) ok dX2_aheadOf_190 (by decide) ?_
  exact J.2 X g K ok nmx lev hK en
def b_X2_aheadOf_176 (r159 : Nat → Int32 → Int32 → Int32 → AH → Option (Int32 × AH)) (a0 : Nat) (a4 : Int32) (a7 : Int32) (a8 : Int32) (h : AH) : Option (Int32 × AH) :=
  (ok_v h a0 2).bind fun x1 => (f_X2_earlierThan a0 a8 h).bind fun q2 => b_X2_aheadOf_187 r159 a0 a4 (a7 ||| q2.1) a8 q2.2
set_option maxHeartbeats 4000000 in
set_option maxRecDepth 100000 in
theorem q_X2_aheadOf_176 {hE : AH} {v : Int32} {r159 : Nat → Int32 → Int32 → Int32 → AH → Option (Int32 × AH)} (hr159 : ∀ (b0 : Nat) (b4 : Int32) (b7 : Int32) (b8 : Int32) (h : AH), r159 b0 b4 b7 b8 h = some (v, hE) → JD cX2_aheadOf 9 RX2 "aheadOf" (some .int) (3) 159 [(0, .inr (.inr (b0))), (4, .inl (b4)), (7, .inl (b7)), (8, .inl (b8))] [] h hE (some (.inl (v)))) {a0 : Nat} {a4 : Int32} {a7 : Int32} {a8 : Int32} {h : AH} (hf : b_X2_aheadOf_176 r159 a0 a4 a7 a8 h = some (v, hE)) : JD cX2_aheadOf 9 RX2 "aheadOf" (some .int) (3) 176 [(0, .inr (.inr (a0))), (4, .inl (a4)), (7, .inl (a7)), (8, .inl (a8))] [] h hE (some (.inl (v))) := by
  unfold b_X2_aheadOf_176 at hf
  obtain ⟨x1, e1, hf⟩ := bnd hf
  obtain ⟨⟨x2, h2⟩, e2, hf⟩ := bnd hf
  try dsimp only at hf
  have k2 := c_X2_earlierThan e2
  have m2 := (k2 default_g).1
  have J := q_X2_aheadOf_187 hr159 hf
  have mE := J.1
  refine ⟨by omega, fun X g K ok nmx lev hK en => ?_⟩
  refine tj_iload ok 2 dX2_aheadOf_176 rfl ?_
  refine tj_aload_n ok 0 dX2_aheadOf_178 rfl rfl ?_
  refine tj_iload ok 3 dX2_aheadOf_179 rfl ?_
  refine tj_callV (rest := ([.inl (a7)] : List TV).map (vl g)) (as := [.inl (a8)]) ok lev (by omega) fcX2.1 (by decide) rfl (of_if e1).1 (k2 g) (CaX.of en (by omega)) kn_X2_earlierThan wm_288 wm_289 wm_290 (rs_ok (Nat.le_of_ble_eq_true rfl)) rfl rfl dX2_aheadOf_181 ?_
  refine tj_ior ok dX2_aheadOf_184 ?_
  refine tj_istore (lv' := [(0, .inr (.inr (a0))), (4, .inl (a4)), (7, .inl (a7 ||| x2)), (8, .inl (a8))]) ok dX2_aheadOf_185 (by decide) rfl ?_
  exact J.2 X g K ok nmx lev hK en
def b_X2_aheadOf_166 (r159 : Nat → Int32 → Int32 → Int32 → AH → Option (Int32 × AH)) (a0 : Nat) (a4 : Int32) (a7 : Int32) (a8 : Int32) (h : AH) : Option (Int32 × AH) :=
  if ((a4 >>> (a8 &&& 31)) &&& (1 : Int32)) = 0 then b_X2_aheadOf_187 r159 a0 a4 a7 a8 h else b_X2_aheadOf_176 r159 a0 a4 a7 a8 h
set_option maxHeartbeats 4000000 in
set_option maxRecDepth 100000 in
theorem q_X2_aheadOf_166 {hE : AH} {v : Int32} {r159 : Nat → Int32 → Int32 → Int32 → AH → Option (Int32 × AH)} (hr159 : ∀ (b0 : Nat) (b4 : Int32) (b7 : Int32) (b8 : Int32) (h : AH), r159 b0 b4 b7 b8 h = some (v, hE) → JD cX2_aheadOf 9 RX2 "aheadOf" (some .int) (3) 159 [(0, .inr (.inr (b0))), (4, .inl (b4)), (7, .inl (b7)), (8, .inl (b8))] [] h hE (some (.inl (v)))) {a0 : Nat} {a4 : Int32} {a7 : Int32} {a8 : Int32} {h : AH} (hf : b_X2_aheadOf_166 r159 a0 a4 a7 a8 h = some (v, hE)) : JD cX2_aheadOf 9 RX2 "aheadOf" (some .int) (3) 166 [(0, .inr (.inr (a0))), (4, .inl (a4)), (7, .inl (a7)), (8, .inl (a8))] [] h hE (some (.inl (v))) := by
  unfold b_X2_aheadOf_166 at hf
  have mE : hp_n h ≤ hp_n hE ∧ hp_s h ≤ hp_s hE := by
    by_cases hc : ((a4 >>> (a8 &&& 31)) &&& (1 : Int32)) = 0
    · rw [if_pos hc] at hf; exact (q_X2_aheadOf_187 hr159 hf).1
    · rw [if_neg hc] at hf; exact (q_X2_aheadOf_176 hr159 hf).1
  refine ⟨by omega, fun X g K ok nmx lev hK en => ?_⟩
  refine tj_iload ok 1 dX2_aheadOf_166 rfl ?_
  refine tj_iload ok 3 dX2_aheadOf_168 rfl ?_
  refine tj_ishr ok dX2_aheadOf_170 ?_
  refine tj_iconst (v := 1) ok dX2_aheadOf_171 (by decide) ?_
  refine tj_iand ok dX2_aheadOf_172 ?_
  refine tj_if_eq (tgt := 187) ok dX2_aheadOf_173 (by decide) (fun hc => ?_) (fun hc => ?_)
  · rw [if_pos hc] at hf
    exact (q_X2_aheadOf_187 hr159 hf).2 X g K ok nmx lev hK en
  · rw [if_neg hc] at hf
    exact (q_X2_aheadOf_176 hr159 hf).2 X g K ok nmx lev hK en
def b_X2_aheadOf_159 (r159 : Nat → Int32 → Int32 → Int32 → AH → Option (Int32 × AH)) (a0 : Nat) (a4 : Int32) (a7 : Int32) (a8 : Int32) (h : AH) : Option (Int32 × AH) :=
  if (8 : Int32) ≤ a8 then b_X2_aheadOf_193 a7 h else b_X2_aheadOf_166 r159 a0 a4 a7 a8 h
set_option maxHeartbeats 4000000 in
set_option maxRecDepth 100000 in
theorem q_X2_aheadOf_159 {hE : AH} {v : Int32} {r159 : Nat → Int32 → Int32 → Int32 → AH → Option (Int32 × AH)} (hr159 : ∀ (b0 : Nat) (b4 : Int32) (b7 : Int32) (b8 : Int32) (h : AH), r159 b0 b4 b7 b8 h = some (v, hE) → JD cX2_aheadOf 9 RX2 "aheadOf" (some .int) (3) 159 [(0, .inr (.inr (b0))), (4, .inl (b4)), (7, .inl (b7)), (8, .inl (b8))] [] h hE (some (.inl (v)))) {a0 : Nat} {a4 : Int32} {a7 : Int32} {a8 : Int32} {h : AH} (hf : b_X2_aheadOf_159 r159 a0 a4 a7 a8 h = some (v, hE)) : JD cX2_aheadOf 9 RX2 "aheadOf" (some .int) (3) 159 [(0, .inr (.inr (a0))), (4, .inl (a4)), (7, .inl (a7)), (8, .inl (a8))] [] h hE (some (.inl (v))) := by
  unfold b_X2_aheadOf_159 at hf
  have mE : hp_n h ≤ hp_n hE ∧ hp_s h ≤ hp_s hE := by
    by_cases hc : (8 : Int32) ≤ a8
    · rw [if_pos hc] at hf; exact (q_X2_aheadOf_193 hf).1
    · rw [if_neg hc] at hf; exact (q_X2_aheadOf_166 hr159 hf).1
  refine ⟨by omega, fun X g K ok nmx lev hK en => ?_⟩
  refine tj_iload ok 3 dX2_aheadOf_159 rfl ?_
  refine tj_bipush (v := 8) ok dX2_aheadOf_161 (by decide) ?_
  refine tj_icmp_ge (tgt := 193) ok dX2_aheadOf_163 (by decide) (fun hc => ?_) (fun hc => ?_)
  · rw [if_pos hc] at hf
    refine tj_sub (lv' := [(7, .inl (a7))]) [2] rfl ?_
    exact (q_X2_aheadOf_193 hf).2 X g K ok nmx lev hK en
  · rw [if_neg hc] at hf
    exact (q_X2_aheadOf_166 hr159 hf).2 X g K ok nmx lev hK en
def l_X2_aheadOf_159 : Nat → Nat → Int32 → Int32 → Int32 → AH → Option (Int32 × AH)
  | 0 => fun _ _ _ _ _ => none
  | n + 1 => fun a0 a4 a7 a8 h => b_X2_aheadOf_159 (l_X2_aheadOf_159 n) a0 a4 a7 a8 h
theorem ql_X2_aheadOf_159 {n : Nat} {a0 : Nat} {a4 : Int32} {a7 : Int32} {a8 : Int32} {h hE : AH} {v : Int32} (hf : l_X2_aheadOf_159 n a0 a4 a7 a8 h = some (v, hE)) : JD cX2_aheadOf 9 RX2 "aheadOf" (some .int) (3) 159 [(0, .inr (.inr (a0))), (4, .inl (a4)), (7, .inl (a7)), (8, .inl (a8))] [] h hE (some (.inl (v))) := by
  induction n generalizing a0 a4 a7 a8 h with
  | zero => cases hf
  | succ n ih => exact q_X2_aheadOf_159 (fun _ _ _ _ _ hf => ih hf) hf
def b_X2_aheadOf_152 (a0 : Nat) (a4 : Int32) (h : AH) : Option (Int32 × AH) :=
  l_X2_aheadOf_159 fu_ a0 a4 a4 (0 : Int32) h
set_option maxHeartbeats 4000000 in
set_option maxRecDepth 100000 in
theorem q_X2_aheadOf_152 {a0 : Nat} {a4 : Int32} {h hE : AH} {v : Int32} (hf : b_X2_aheadOf_152 a0 a4 h = some (v, hE)) : JD cX2_aheadOf 9 RX2 "aheadOf" (some .int) (3) 152 [(0, .inr (.inr (a0))), (4, .inl (a4))] [] h hE (some (.inl (v))) := by
  unfold b_X2_aheadOf_152 at hf
  have J := ql_X2_aheadOf_159 hf
  have mE := J.1
  refine ⟨by omega, fun X g K ok nmx lev hK en => ?_⟩
  refine tj_iload ok 1 dX2_aheadOf_152 rfl ?_
  refine tj_istore (lv' := [(0, .inr (.inr (a0))), (4, .inl (a4)), (7, .inl (a4))]) ok dX2_aheadOf_154 (by decide) rfl ?_
  refine tj_iconst (v := 0) ok dX2_aheadOf_156 (by decide) ?_
  refine tj_istore (lv' := [(0, .inr (.inr (a0))), (4, .inl (a4)), (7, .inl (a4)), (8, .inl ((0 : Int32)))]) ok dX2_aheadOf_157 (by decide) rfl ?_
  exact J.2 X g K ok nmx lev hK en
def b_X2_aheadOf_138 (a0 : Nat) (a4 : Int32) (h : AH) : Option (Int32 × AH) :=
  (g_r h a0 2 7).bind fun x1 => (g_i h x1 0 17).bind fun x2 => b_X2_aheadOf_152 a0 (a4 ||| ((1 : Int32) <<< (x2 &&& 31))) h
set_option maxHeartbeats 4000000 in
set_option maxRecDepth 100000 in
theorem q_X2_aheadOf_138 {a0 : Nat} {a4 : Int32} {h hE : AH} {v : Int32} (hf : b_X2_aheadOf_138 a0 a4 h = some (v, hE)) : JD cX2_aheadOf 9 RX2 "aheadOf" (some .int) (3) 138 [(0, .inr (.inr (a0))), (4, .inl (a4))] [] h hE (some (.inl (v))) := by
  unfold b_X2_aheadOf_138 at hf
  obtain ⟨x1, e1, hf⟩ := bnd hf
  obtain ⟨x2, e2, hf⟩ := bnd hf
  have J := q_X2_aheadOf_152 hf
  have mE := J.1
  refine ⟨by omega, fun X g K ok nmx lev hK en => ?_⟩
  refine tj_iload ok 1 dX2_aheadOf_138 rfl ?_
  refine tj_iconst (v := 1) ok dX2_aheadOf_140 (by decide) ?_
  refine tj_aload_n ok 0 dX2_aheadOf_141 rfl rfl ?_
  refine tj_getR (k := 7) ok fcX2 (by decide) wm_154 rfl (Or.inl ⟨_, rfl⟩) dX2_aheadOf_142 e1 ?_
  refine tj_getI (k := 17) ok fcX0 (by decide) wm_291 rfl (Or.inl rfl) dX2_aheadOf_145 e2 ?_
  refine tj_ishl ok dX2_aheadOf_148 ?_
  refine tj_ior ok dX2_aheadOf_149 ?_
  refine tj_istore (lv' := [(0, .inr (.inr (a0))), (4, .inl (a4 ||| ((1 : Int32) <<< (x2 &&& 31))))]) ok dX2_aheadOf_150 (by decide) rfl ?_
  exact J.2 X g K ok nmx lev hK en
def b_X2_aheadOf_119 (a0 : Nat) (a2 : Int32) (a4 : Int32) (h : AH) : Option (Int32 × AH) :=
  (g_r h a0 2 7).bind fun x1 => (g_r h x1 0 2).bind fun x2 => (l_i h x2 (a2 &&& (63 : Int32))).bind fun x3 => (ok_v h a0 2).bind fun x4 => (f_X2_hasPublished a0 x3 h).bind fun q5 => if q5.1 = 0 then b_X2_aheadOf_152 a0 a4 q5.2 else b_X2_aheadOf_138 a0 a4 q5.2
set_option maxHeartbeats 4000000 in
set_option maxRecDepth 100000 in
theorem q_X2_aheadOf_119 {a0 : Nat} {a2 : Int32} {a4 : Int32} {h hE : AH} {v : Int32} (hf : b_X2_aheadOf_119 a0 a2 a4 h = some (v, hE)) : JD cX2_aheadOf 9 RX2 "aheadOf" (some .int) (3) 119 [(0, .inr (.inr (a0))), (2, .inl (a2)), (4, .inl (a4))] [] h hE (some (.inl (v))) := by
  unfold b_X2_aheadOf_119 at hf
  obtain ⟨x1, e1, hf⟩ := bnd hf
  obtain ⟨x2, e2, hf⟩ := bnd hf
  obtain ⟨x3, e3, hf⟩ := bnd hf
  obtain ⟨x4, e4, hf⟩ := bnd hf
  obtain ⟨⟨x5, h5⟩, e5, hf⟩ := bnd hf
  try dsimp only at hf
  have k5 := c_X2_hasPublished e5
  have m5 := (k5 default_g).1
  have mE : hp_n h5 ≤ hp_n hE ∧ hp_s h5 ≤ hp_s hE := by
    by_cases hc : x5 = 0
    · rw [if_pos hc] at hf; exact (q_X2_aheadOf_152 hf).1
    · rw [if_neg hc] at hf; exact (q_X2_aheadOf_138 hf).1
  refine ⟨by omega, fun X g K ok nmx lev hK en => ?_⟩
  refine tj_aload_n ok 0 dX2_aheadOf_119 rfl rfl ?_
  refine tj_aload_n ok 0 dX2_aheadOf_120 rfl rfl ?_
  refine tj_getR (k := 7) ok fcX2 (by decide) wm_154 rfl (Or.inl ⟨_, rfl⟩) dX2_aheadOf_121 e1 ?_
  refine tj_getR (k := 2) ok fcX0 (by decide) wm_241 rfl (Or.inr ⟨_, rfl⟩) dX2_aheadOf_124 e2 ?_
  refine tj_iload_n ok 1 dX2_aheadOf_127 rfl rfl ?_
  refine tj_bipush (v := 63) ok dX2_aheadOf_128 (by decide) ?_
  refine tj_iand ok dX2_aheadOf_130 ?_
  refine tj_iaload ok dX2_aheadOf_131 e3 ?_
  refine tj_callV (rest := ([] : List TV).map (vl g)) (as := [.inl (x3)]) ok lev (by omega) fcX2.1 (by decide) rfl (of_if e4).1 (k5 g) (CaX.of en (by omega)) kn_X2_hasPublished wm_292 wm_293 wm_294 (rs_ok (Nat.le_of_ble_eq_true rfl)) rfl rfl dX2_aheadOf_132 ?_
  refine tj_if_eq (tgt := 152) ok dX2_aheadOf_135 (by decide) (fun hc => ?_) (fun hc => ?_)
  · rw [if_pos hc] at hf
    refine tj_sub (lv' := [(0, .inr (.inr (a0))), (4, .inl (a4))]) [0, 2] rfl ?_
    exact (q_X2_aheadOf_152 hf).2 X g K ok nmx lev hK en
  · rw [if_neg hc] at hf
    refine tj_sub (lv' := [(0, .inr (.inr (a0))), (4, .inl (a4))]) [0, 2] rfl ?_
    exact (q_X2_aheadOf_138 hf).2 X g K ok nmx lev hK en
def b_X2_aheadOf_108 (a0 : Nat) (a2 : Int32) (a4 : Int32) (h : AH) : Option (Int32 × AH) :=
  (g_r h a0 2 7).bind fun x1 => (g_i h x1 0 17).bind fun x2 => if x2 = (-1 : Int32) then b_X2_aheadOf_152 a0 a4 h else b_X2_aheadOf_119 a0 a2 a4 h
set_option maxHeartbeats 4000000 in
set_option maxRecDepth 100000 in
theorem q_X2_aheadOf_108 {a0 : Nat} {a2 : Int32} {a4 : Int32} {h hE : AH} {v : Int32} (hf : b_X2_aheadOf_108 a0 a2 a4 h = some (v, hE)) : JD cX2_aheadOf 9 RX2 "aheadOf" (some .int) (3) 108 [(0, .inr (.inr (a0))), (2, .inl (a2)), (4, .inl (a4))] [] h hE (some (.inl (v))) := by
  unfold b_X2_aheadOf_108 at hf
  obtain ⟨x1, e1, hf⟩ := bnd hf
  obtain ⟨x2, e2, hf⟩ := bnd hf
  have mE : hp_n h ≤ hp_n hE ∧ hp_s h ≤ hp_s hE := by
    by_cases hc : x2 = (-1 : Int32)
    · rw [if_pos hc] at hf; exact (q_X2_aheadOf_152 hf).1
    · rw [if_neg hc] at hf; exact (q_X2_aheadOf_119 hf).1
  refine ⟨by omega, fun X g K ok nmx lev hK en => ?_⟩
  refine tj_aload_n ok 0 dX2_aheadOf_108 rfl rfl ?_
  refine tj_getR (k := 7) ok fcX2 (by decide) wm_154 rfl (Or.inl ⟨_, rfl⟩) dX2_aheadOf_109 e1 ?_
  refine tj_getI (k := 17) ok fcX0 (by decide) wm_291 rfl (Or.inl rfl) dX2_aheadOf_112 e2 ?_
  refine tj_iconst (v := -1) ok dX2_aheadOf_115 (by decide) ?_
  refine tj_icmp_eq (tgt := 152) ok dX2_aheadOf_116 (by decide) (fun hc => ?_) (fun hc => ?_)
  · rw [if_pos hc] at hf
    refine tj_sub (lv' := [(0, .inr (.inr (a0))), (4, .inl (a4))]) [0, 2] rfl ?_
    exact (q_X2_aheadOf_152 hf).2 X g K ok nmx lev hK en
  · rw [if_neg hc] at hf
    exact (q_X2_aheadOf_119 hf).2 X g K ok nmx lev hK en
def b_X2_aheadOf_102 (a0 : Nat) (a2 : Int32) (a4 : Int32) (a5 : Int32) (h : AH) : Option (Int32 × AH) :=
  if a5 = (2 : Int32) then b_X2_aheadOf_108 a0 a2 a4 h else b_X2_aheadOf_152 a0 a4 h
set_option maxHeartbeats 4000000 in
set_option maxRecDepth 100000 in
theorem q_X2_aheadOf_102 {a0 : Nat} {a2 : Int32} {a4 : Int32} {a5 : Int32} {h hE : AH} {v : Int32} (hf : b_X2_aheadOf_102 a0 a2 a4 a5 h = some (v, hE)) : JD cX2_aheadOf 9 RX2 "aheadOf" (some .int) (3) 102 [(0, .inr (.inr (a0))), (2, .inl (a2)), (4, .inl (a4)), (5, .inl (a5))] [] h hE (some (.inl (v))) := by
  unfold b_X2_aheadOf_102 at hf
  have mE : hp_n h ≤ hp_n hE ∧ hp_s h ≤ hp_s hE := by
    by_cases hc : a5 = (2 : Int32)
    · rw [if_pos hc] at hf; exact (q_X2_aheadOf_108 hf).1
    · rw [if_neg hc] at hf; exact (q_X2_aheadOf_152 hf).1
  refine ⟨by omega, fun X g K ok nmx lev hK en => ?_⟩
  refine tj_iload ok 3 dX2_aheadOf_102 rfl ?_
  refine tj_iconst (v := 2) ok dX2_aheadOf_104 (by decide) ?_
  refine tj_icmp_ne (tgt := 152) ok dX2_aheadOf_105 (by decide) (fun hc => ?_) (fun hc => ?_)
  · rw [if_neg hc] at hf
    refine tj_sub (lv' := [(0, .inr (.inr (a0))), (4, .inl (a4))]) [0, 2] rfl ?_
    exact (q_X2_aheadOf_152 hf).2 X g K ok nmx lev hK en
  · rw [if_pos hc] at hf
    refine tj_sub (lv' := [(0, .inr (.inr (a0))), (2, .inl (a2)), (4, .inl (a4))]) [0, 1, 2] rfl ?_
    exact (q_X2_aheadOf_108 hf).2 X g K ok nmx lev hK en
def b_X2_aheadOf_91 (a0 : Nat) (a3 : Int32) (a4 : Int32) (h : AH) : Option (Int32 × AH) :=
  b_X2_aheadOf_152 a0 (a4 ||| ((1 : Int32) <<< (a3 &&& 31))) h
set_option maxHeartbeats 4000000 in
set_option maxRecDepth 100000 in
theorem q_X2_aheadOf_91 {a0 : Nat} {a3 : Int32} {a4 : Int32} {h hE : AH} {v : Int32} (hf : b_X2_aheadOf_91 a0 a3 a4 h = some (v, hE)) : JD cX2_aheadOf 9 RX2 "aheadOf" (some .int) (3) 91 [(0, .inr (.inr (a0))), (3, .inl (a3)), (4, .inl (a4))] [] h hE (some (.inl (v))) := by
  unfold b_X2_aheadOf_91 at hf
  have J := q_X2_aheadOf_152 hf
  have mE := J.1
  refine ⟨by omega, fun X g K ok nmx lev hK en => ?_⟩
  refine tj_iload ok 2 dX2_aheadOf_91 rfl ?_
  refine tj_iconst (v := 1) ok dX2_aheadOf_93 (by decide) ?_
  refine tj_iload_n ok 1 dX2_aheadOf_94 rfl rfl ?_
  refine tj_ishl ok dX2_aheadOf_95 ?_
  refine tj_ior ok dX2_aheadOf_96 ?_
  refine tj_istore (lv' := [(0, .inr (.inr (a0))), (3, .inl (a3)), (4, .inl (a4 ||| ((1 : Int32) <<< (a3 &&& 31))))]) ok dX2_aheadOf_97 (by decide) rfl ?_
  refine tj_goto (tgt := 152) ok dX2_aheadOf_99 (by decide) ?_
  refine tj_sub (lv' := [(0, .inr (.inr (a0))), (4, .inl (a4 ||| ((1 : Int32) <<< (a3 &&& 31))))]) [0, 2] rfl ?_
  exact J.2 X g K ok nmx lev hK en
def b_X2_aheadOf_85 (a0 : Nat) (a2 : Int32) (a3 : Int32) (a4 : Int32) (a5 : Int32) (h : AH) : Option (Int32 × AH) :=
  if (8 : Int32) ≤ a3 then b_X2_aheadOf_102 a0 a2 a4 a5 h else b_X2_aheadOf_91 a0 a3 a4 h
set_option maxHeartbeats 4000000 in
set_option maxRecDepth 100000 in
theorem q_X2_aheadOf_85 {a0 : Nat} {a2 : Int32} {a3 : Int32} {a4 : Int32} {a5 : Int32} {h hE : AH} {v : Int32} (hf : b_X2_aheadOf_85 a0 a2 a3 a4 a5 h = some (v, hE)) : JD cX2_aheadOf 9 RX2 "aheadOf" (some .int) (3) 85 [(0, .inr (.inr (a0))), (2, .inl (a2)), (3, .inl (a3)), (4, .inl (a4)), (5, .inl (a5))] [] h hE (some (.inl (v))) := by
  unfold b_X2_aheadOf_85 at hf
  have mE : hp_n h ≤ hp_n hE ∧ hp_s h ≤ hp_s hE := by
    by_cases hc : (8 : Int32) ≤ a3
    · rw [if_pos hc] at hf; exact (q_X2_aheadOf_102 hf).1
    · rw [if_neg hc] at hf; exact (q_X2_aheadOf_91 hf).1
  refine ⟨by omega, fun X g K ok nmx lev hK en => ?_⟩
  refine tj_iload_n ok 2 dX2_aheadOf_85 rfl rfl ?_
  refine tj_bipush (v := 8) ok dX2_aheadOf_86 (by decide) ?_
  refine tj_icmp_ge (tgt := 102) ok dX2_aheadOf_88 (by decide) (fun hc => ?_) (fun hc => ?_)
  · rw [if_pos hc] at hf
    refine tj_sub (lv' := [(0, .inr (.inr (a0))), (2, .inl (a2)), (4, .inl (a4)), (5, .inl (a5))]) [0, 1, 3, 4] rfl ?_
    exact (q_X2_aheadOf_102 hf).2 X g K ok nmx lev hK en
  · rw [if_neg hc] at hf
    refine tj_sub (lv' := [(0, .inr (.inr (a0))), (3, .inl (a3)), (4, .inl (a4))]) [0, 2, 3] rfl ?_
    exact (q_X2_aheadOf_91 hf).2 X g K ok nmx lev hK en
def b_X2_aheadOf_76 (a0 : Nat) (a2 : Int32) (a3 : Int32) (a4 : Int32) (a5 : Int32) (a6 : Int32) (h : AH) : Option (Int32 × AH) :=
  (ok_v h a0 2).bind fun x1 => (f_X2_isVolatile a0 a6 h).bind fun q2 => if q2.1 = 0 then b_X2_aheadOf_102 a0 a2 a4 a5 q2.2 else b_X2_aheadOf_85 a0 a2 a3 a4 a5 q2.2
set_option maxHeartbeats 4000000 in
set_option maxRecDepth 100000 in
theorem q_X2_aheadOf_76 {a0 : Nat} {a2 : Int32} {a3 : Int32} {a4 : Int32} {a5 : Int32} {a6 : Int32} {h hE : AH} {v : Int32} (hf : b_X2_aheadOf_76 a0 a2 a3 a4 a5 a6 h = some (v, hE)) : JD cX2_aheadOf 9 RX2 "aheadOf" (some .int) (3) 76 [(0, .inr (.inr (a0))), (2, .inl (a2)), (3, .inl (a3)), (4, .inl (a4)), (5, .inl (a5)), (6, .inl (a6))] [] h hE (some (.inl (v))) := by
  unfold b_X2_aheadOf_76 at hf
  obtain ⟨x1, e1, hf⟩ := bnd hf
  obtain ⟨⟨x2, h2⟩, e2, hf⟩ := bnd hf
  try dsimp only at hf
  have k2 := c_X2_isVolatile e2
  have m2 := (k2 default_g).1
  have mE : hp_n h2 ≤ hp_n hE ∧ hp_s h2 ≤ hp_s hE := by
    by_cases hc : x2 = 0
    · rw [if_pos hc] at hf; exact (q_X2_aheadOf_102 hf).1
    · rw [if_neg hc] at hf; exact (q_X2_aheadOf_85 hf).1
  refine ⟨by omega, fun X g K ok nmx lev hK en => ?_⟩
  refine tj_aload_n ok 0 dX2_aheadOf_76 rfl rfl ?_
  refine tj_iload ok 5 dX2_aheadOf_77 rfl ?_
  refine tj_callV (rest := ([] : List TV).map (vl g)) (as := [.inl (a6)]) ok lev (by omega) fcX2.1 (by decide) rfl (of_if e1).1 (k2 g) (CaX.of en (by omega)) kn_X2_isVolatile wm_295 wm_296 wm_297 (rs_ok (Nat.le_of_ble_eq_true rfl)) rfl rfl dX2_aheadOf_79 ?_
  refine tj_if_eq (tgt := 102) ok dX2_aheadOf_82 (by decide) (fun hc => ?_) (fun hc => ?_)
  · rw [if_pos hc] at hf
    refine tj_sub (lv' := [(0, .inr (.inr (a0))), (2, .inl (a2)), (4, .inl (a4)), (5, .inl (a5))]) [0, 1, 3, 4] rfl ?_
    exact (q_X2_aheadOf_102 hf).2 X g K ok nmx lev hK en
  · rw [if_neg hc] at hf
    refine tj_sub (lv' := [(0, .inr (.inr (a0))), (2, .inl (a2)), (3, .inl (a3)), (4, .inl (a4)), (5, .inl (a5))]) [0, 1, 2, 3, 4] rfl ?_
    exact (q_X2_aheadOf_85 hf).2 X g K ok nmx lev hK en
def b_X2_aheadOf_71 (a0 : Nat) (a2 : Int32) (a3 : Int32) (a4 : Int32) (a5 : Int32) (a6 : Int32) (h : AH) : Option (Int32 × AH) :=
  if a5 = 0 then b_X2_aheadOf_76 a0 a2 a3 a4 a5 a6 h else b_X2_aheadOf_102 a0 a2 a4 a5 h
set_option maxHeartbeats 4000000 in
set_option maxRecDepth 100000 in
theorem q_X2_aheadOf_71 {a0 : Nat} {a2 : Int32} {a3 : Int32} {a4 : Int32} {a5 : Int32} {a6 : Int32} {h hE : AH} {v : Int32} (hf : b_X2_aheadOf_71 a0 a2 a3 a4 a5 a6 h = some (v, hE)) : JD cX2_aheadOf 9 RX2 "aheadOf" (some .int) (3) 71 [(0, .inr (.inr (a0))), (2, .inl (a2)), (3, .inl (a3)), (4, .inl (a4)), (5, .inl (a5)), (6, .inl (a6))] [] h hE (some (.inl (v))) := by
  unfold b_X2_aheadOf_71 at hf
  have mE : hp_n h ≤ hp_n hE ∧ hp_s h ≤ hp_s hE := by
    by_cases hc : a5 = 0
    · rw [if_pos hc] at hf; exact (q_X2_aheadOf_76 hf).1
    · rw [if_neg hc] at hf; exact (q_X2_aheadOf_102 hf).1
  refine ⟨by omega, fun X g K ok nmx lev hK en => ?_⟩
  refine tj_iload ok 4 dX2_aheadOf_71 rfl ?_
  refine tj_if_ne (tgt := 102) ok dX2_aheadOf_73 (by decide) (fun hc => ?_) (fun hc => ?_)
  · rw [if_neg hc] at hf
    refine tj_sub (lv' := [(0, .inr (.inr (a0))), (2, .inl (a2)), (4, .inl (a4)), (5, .inl (a5))]) [0, 1, 3, 4] rfl ?_
    exact (q_X2_aheadOf_102 hf).2 X g K ok nmx lev hK en
  · rw [if_pos hc] at hf
    exact (q_X2_aheadOf_76 hf).2 X g K ok nmx lev hK en
def b_X2_aheadOf_49 (a0 : Nat) (a4 : Int32) (a6 : Int32) (h : AH) : Option (Int32 × AH) :=
  (g_r h a0 2 5).bind fun x1 => (l_i h x1 (a6 &&& (1 : Int32))).bind fun x2 => (ok_v h a0 2).bind fun x3 => (f_X2_doneActions a0 h).bind fun q4 => b_X2_aheadOf_152 a0 (a4 ||| (x2 &&& q4.1)) q4.2
set_option maxHeartbeats 4000000 in
set_option maxRecDepth 100000 in
theorem q_X2_aheadOf_49 {a0 : Nat} {a4 : Int32} {a6 : Int32} {h hE : AH} {v : Int32} (hf : b_X2_aheadOf_49 a0 a4 a6 h = some (v, hE)) : JD cX2_aheadOf 9 RX2 "aheadOf" (some .int) (3) 49 [(0, .inr (.inr (a0))), (4, .inl (a4)), (6, .inl (a6))] [] h hE (some (.inl (v))) := by
  unfold b_X2_aheadOf_49 at hf
  obtain ⟨x1, e1, hf⟩ := bnd hf
  obtain ⟨x2, e2, hf⟩ := bnd hf
  obtain ⟨x3, e3, hf⟩ := bnd hf
  obtain ⟨⟨x4, h4⟩, e4, hf⟩ := bnd hf
  try dsimp only at hf
  have k4 := c_X2_doneActions e4
  have m4 := (k4 default_g).1
  have J := q_X2_aheadOf_152 hf
  have mE := J.1
  refine ⟨by omega, fun X g K ok nmx lev hK en => ?_⟩
  refine tj_iload ok 1 dX2_aheadOf_49 rfl ?_
  refine tj_aload_n ok 0 dX2_aheadOf_51 rfl rfl ?_
  refine tj_getR (k := 5) ok fcX2 (by decide) wm_149 rfl (Or.inr ⟨_, rfl⟩) dX2_aheadOf_52 e1 ?_
  refine tj_iload ok 2 dX2_aheadOf_55 rfl ?_
  refine tj_iconst (v := 1) ok dX2_aheadOf_57 (by decide) ?_
  refine tj_iand ok dX2_aheadOf_58 ?_
  refine tj_iaload ok dX2_aheadOf_59 e2 ?_
  refine tj_aload_n ok 0 dX2_aheadOf_60 rfl rfl ?_
  refine tj_callV (rest := ([.inl (x2), .inl (a4)] : List TV).map (vl g)) (as := []) ok lev (by omega) fcX2.1 (by decide) rfl (of_if e3).1 (k4 g) (CaX.of en (by omega)) kn_X2_doneActions wm_298 wm_299 wm_300 (rs_ok (Nat.le_of_ble_eq_true rfl)) rfl rfl dX2_aheadOf_61 ?_
  refine tj_iand ok dX2_aheadOf_64 ?_
  refine tj_ior ok dX2_aheadOf_65 ?_
  refine tj_istore (lv' := [(0, .inr (.inr (a0))), (4, .inl (a4 ||| (x2 &&& x4))), (6, .inl (a6))]) ok dX2_aheadOf_66 (by decide) rfl ?_
  refine tj_goto (tgt := 152) ok dX2_aheadOf_68 (by decide) ?_
  refine tj_sub (lv' := [(0, .inr (.inr (a0))), (4, .inl (a4 ||| (x2 &&& x4)))]) [0, 1] rfl ?_
  exact J.2 X g K ok nmx lev hK en
def b_X2_aheadOf_0 (a0 : Nat) (a1 : Int32) (a2 : Int32) (a3 : Int32) (h : AH) : Option (Int32 × AH) :=
  (g_r h a0 2 6).bind fun x1 => (l_i h x1 (a1 &&& (3 : Int32))).bind fun x2 => (ok_v h a0 2).bind fun x3 => (f_X2_doneActions a0 h).bind fun q4 => (g_r q4.2 a0 2 7).bind fun x5 => (g_r q4.2 x5 0 0).bind fun x6 => (l_i q4.2 x6 (a2 &&& (63 : Int32))).bind fun x7 => (g_r q4.2 a0 2 7).bind fun x8 => (g_r q4.2 x8 0 4).bind fun x9 => (l_i q4.2 x9 (a2 &&& (63 : Int32))).bind fun x10 => if x7 = (3 : Int32) then b_X2_aheadOf_49 a0 (x2 &&& q4.1) x10 q4.2 else b_X2_aheadOf_71 a0 a2 a3 (x2 &&& q4.1) x7 x10 q4.2
set_option maxHeartbeats 4000000 in
set_option maxRecDepth 100000 in
theorem q_X2_aheadOf_0 {a0 : Nat} {a1 : Int32} {a2 : Int32} {a3 : Int32} {h hE : AH} {v : Int32} (hf : b_X2_aheadOf_0 a0 a1 a2 a3 h = some (v, hE)) : JD cX2_aheadOf 9 RX2 "aheadOf" (some .int) (3) 0 [(0, .inr (.inr (a0))), (1, .inl (a1)), (2, .inl (a2)), (3, .inl (a3))] [] h hE (some (.inl (v))) := by
  unfold b_X2_aheadOf_0 at hf
  obtain ⟨x1, e1, hf⟩ := bnd hf
  obtain ⟨x2, e2, hf⟩ := bnd hf
  obtain ⟨x3, e3, hf⟩ := bnd hf
  obtain ⟨⟨x4, h4⟩, e4, hf⟩ := bnd hf
  try dsimp only at hf
  have k4 := c_X2_doneActions e4
  have m4 := (k4 default_g).1
  obtain ⟨x5, e5, hf⟩ := bnd hf
  obtain ⟨x6, e6, hf⟩ := bnd hf
  obtain ⟨x7, e7, hf⟩ := bnd hf
  obtain ⟨x8, e8, hf⟩ := bnd hf
  obtain ⟨x9, e9, hf⟩ := bnd hf
  obtain ⟨x10, e10, hf⟩ := bnd hf
  have mE : hp_n h4 ≤ hp_n hE ∧ hp_s h4 ≤ hp_s hE := by
    by_cases hc : x7 = (3 : Int32)
    · rw [if_pos hc] at hf; exact (q_X2_aheadOf_49 hf).1
    · rw [if_neg hc] at hf; exact (q_X2_aheadOf_71 hf).1
  refine ⟨by omega, fun X g K ok nmx lev hK en => ?_⟩
  refine tj_aload_n ok 0 dX2_aheadOf_0 rfl rfl ?_
  refine tj_getR (k := 6) ok fcX2 (by decide) wm_150 rfl (Or.inr ⟨_, rfl⟩) dX2_aheadOf_1 e1 ?_
  refine tj_iload_n ok 1 dX2_aheadOf_4 rfl rfl ?_
  refine tj_iconst (v := 3) ok dX2_aheadOf_5 (by decide) ?_
  refine tj_iand ok dX2_aheadOf_6 ?_
  refine tj_iaload ok dX2_aheadOf_7 e2 ?_
  refine tj_aload_n ok 0 dX2_aheadOf_8 rfl rfl ?_
  refine tj_callV (rest := ([.inl (x2)] : List TV).map (vl g)) (as := []) ok lev (by omega) fcX2.1 (by decide) rfl (of_if e3).1 (k4 g) (CaX.of en (by omega)) kn_X2_doneActions wm_298 wm_299 wm_300 (rs_ok (Nat.le_of_ble_eq_true rfl)) rfl rfl dX2_aheadOf_9 ?_
  refine tj_iand ok dX2_aheadOf_12 ?_
  refine tj_istore (lv' := [(0, .inr (.inr (a0))), (1, .inl (a1)), (2, .inl (a2)), (3, .inl (a3)), (4, .inl (x2 &&& x4))]) ok dX2_aheadOf_13 (by decide) rfl ?_
  refine tj_aload_n ok 0 dX2_aheadOf_15 rfl rfl ?_
  refine tj_getR (k := 7) ok fcX2 (by decide) wm_154 rfl (Or.inl ⟨_, rfl⟩) dX2_aheadOf_16 e5 ?_
  refine tj_getR (k := 0) ok fcX0 (by decide) wm_253 rfl (Or.inr ⟨_, rfl⟩) dX2_aheadOf_19 e6 ?_
  refine tj_iload_n ok 2 dX2_aheadOf_22 rfl rfl ?_
  refine tj_bipush (v := 63) ok dX2_aheadOf_23 (by decide) ?_
  refine tj_iand ok dX2_aheadOf_25 ?_
  refine tj_iaload ok dX2_aheadOf_26 e7 ?_
  refine tj_istore (lv' := [(0, .inr (.inr (a0))), (1, .inl (a1)), (2, .inl (a2)), (3, .inl (a3)), (4, .inl (x2 &&& x4)), (5, .inl (x7))]) ok dX2_aheadOf_27 (by decide) rfl ?_
  refine tj_aload_n ok 0 dX2_aheadOf_29 rfl rfl ?_
  refine tj_getR (k := 7) ok fcX2 (by decide) wm_154 rfl (Or.inl ⟨_, rfl⟩) dX2_aheadOf_30 e8 ?_
  refine tj_getR (k := 4) ok fcX0 (by decide) wm_301 rfl (Or.inr ⟨_, rfl⟩) dX2_aheadOf_33 e9 ?_
  refine tj_iload_n ok 2 dX2_aheadOf_36 rfl rfl ?_
  refine tj_bipush (v := 63) ok dX2_aheadOf_37 (by decide) ?_
  refine tj_iand ok dX2_aheadOf_39 ?_
  refine tj_iaload ok dX2_aheadOf_40 e10 ?_
  refine tj_istore (lv' := [(0, .inr (.inr (a0))), (1, .inl (a1)), (2, .inl (a2)), (3, .inl (a3)), (4, .inl (x2 &&& x4)), (5, .inl (x7)), (6, .inl (x10))]) ok dX2_aheadOf_41 (by decide) rfl ?_
  refine tj_iload ok 5 dX2_aheadOf_43 rfl ?_
  refine tj_iconst (v := 3) ok dX2_aheadOf_45 (by decide) ?_
  refine tj_icmp_ne (tgt := 71) ok dX2_aheadOf_46 (by decide) (fun hc => ?_) (fun hc => ?_)
  · rw [if_neg hc] at hf
    refine tj_sub (lv' := [(0, .inr (.inr (a0))), (2, .inl (a2)), (3, .inl (a3)), (4, .inl (x2 &&& x4)), (5, .inl (x7)), (6, .inl (x10))]) [0, 2, 3, 4, 5, 6] rfl ?_
    exact (q_X2_aheadOf_71 hf).2 X g K ok nmx lev hK en
  · rw [if_pos hc] at hf
    refine tj_sub (lv' := [(0, .inr (.inr (a0))), (4, .inl (x2 &&& x4)), (6, .inl (x10))]) [0, 4, 6] rfl ?_
    exact (q_X2_aheadOf_49 hf).2 X g K ok nmx lev hK en
def f_X2_aheadOf (a0 : Nat) (a1 : Int32) (a2 : Int32) (a3 : Int32) (h : AH) : Option (Int32 × AH) := b_X2_aheadOf_0  a0 a1 a2 a3 h
theorem c_X2_aheadOf {a0 : Nat} {a1 : Int32} {a2 : Int32} {a3 : Int32} {h hE : AH} {v : Int32} (hf : f_X2_aheadOf a0 a1 a2 a3 h = some (v, hE)) : ∀ g : GT, CM g (3) yX2_aheadOf cX2_aheadOf 9 (some .int) h [.inr (.inr (a0)), .inl (a1), .inl (a2), .inl (a3)] hE (some (.inl (v))) :=
  CM.ofJ (by decide) (by show _ ≤ 9; exact Nat.le_of_ble_eq_true rfl) (q_X2_aheadOf_0 hf)
/-! ===== LitmusHouse$Machine.isPublished(I)Z ===== -/
def b_X2_isPublished_63 (s0 : Int32) (h : AH) : Option (Int32 × AH) :=
  ok_z s0 h
set_option maxHeartbeats 4000000 in
set_option maxRecDepth 100000 in
theorem q_X2_isPublished_63 {s0 : Int32} {h hE : AH} {v : Int32} (hf : b_X2_isPublished_63 s0 h = some (v, hE)) : JD cX2_isPublished 2 RX2 "isPublished" (some .boolean) (2) 63 [] [.inl (s0)] h hE (some (.inl (v))) := by
  unfold b_X2_isPublished_63 at hf
  have mE : hp_n h ≤ hp_n hE ∧ hp_s h ≤ hp_s hE := by obtain ⟨-, q⟩ := of_if hf; cases q; exact ⟨Nat.le_refl _, Nat.le_refl _⟩
  refine ⟨by omega, fun X g K ok nmx lev hK en => ?_⟩
  exact tj_zreturn ok hf en dX2_isPublished_63
def b_X2_isPublished_62  (h : AH) : Option (Int32 × AH) :=
  b_X2_isPublished_63 (0 : Int32) h
set_option maxHeartbeats 4000000 in
set_option maxRecDepth 100000 in
theorem q_X2_isPublished_62 {h hE : AH} {v : Int32} (hf : b_X2_isPublished_62  h = some (v, hE)) : JD cX2_isPublished 2 RX2 "isPublished" (some .boolean) (2) 62 [] [] h hE (some (.inl (v))) := by
  unfold b_X2_isPublished_62 at hf
  have J := q_X2_isPublished_63 hf
  have mE := J.1
  refine ⟨by omega, fun X g K ok nmx lev hK en => ?_⟩
  refine tj_iconst (v := 0) ok dX2_isPublished_62 (by decide) ?_
  exact J.2 X g K ok nmx lev hK en
def b_X2_isPublished_58  (h : AH) : Option (Int32 × AH) :=
  b_X2_isPublished_63 (1 : Int32) h
set_option maxHeartbeats 4000000 in
set_option maxRecDepth 100000 in
theorem q_X2_isPublished_58 {h hE : AH} {v : Int32} (hf : b_X2_isPublished_58  h = some (v, hE)) : JD cX2_isPublished 2 RX2 "isPublished" (some .boolean) (2) 58 [] [] h hE (some (.inl (v))) := by
  unfold b_X2_isPublished_58 at hf
  have J := q_X2_isPublished_63 hf
  have mE := J.1
  refine ⟨by omega, fun X g K ok nmx lev hK en => ?_⟩
  refine tj_iconst (v := 1) ok dX2_isPublished_58 (by decide) ?_
  refine tj_goto (tgt := 63) ok dX2_isPublished_59 (by decide) ?_
  exact J.2 X g K ok nmx lev hK en
def b_X2_isPublished_36 (a0 : Nat) (a1 : Int32) (h : AH) : Option (Int32 × AH) :=
  (g_r h a0 2 7).bind fun x1 => (g_r h x1 0 9).bind fun x2 => (l_i h x2 (a1 &&& (7 : Int32))).bind fun x3 => (g_r h a0 2 7).bind fun x4 => (g_i h x4 0 16).bind fun x5 => if x3 = x5 then b_X2_isPublished_58 h else b_X2_isPublished_62 h
set_option maxHeartbeats 4000000 in
set_option maxRecDepth 100000 in
theorem q_X2_isPublished_36 {a0 : Nat} {a1 : Int32} {h hE : AH} {v : Int32} (hf : b_X2_isPublished_36 a0 a1 h = some (v, hE)) : JD cX2_isPublished 2 RX2 "isPublished" (some .boolean) (2) 36 [(0, .inr (.inr (a0))), (1, .inl (a1))] [] h hE (some (.inl (v))) := by
  unfold b_X2_isPublished_36 at hf
  obtain ⟨x1, e1, hf⟩ := bnd hf
  obtain ⟨x2, e2, hf⟩ := bnd hf
  obtain ⟨x3, e3, hf⟩ := bnd hf
  obtain ⟨x4, e4, hf⟩ := bnd hf
  obtain ⟨x5, e5, hf⟩ := bnd hf
  have mE : hp_n h ≤ hp_n hE ∧ hp_s h ≤ hp_s hE := by
    by_cases hc : x3 = x5
    · rw [if_pos hc] at hf; exact (q_X2_isPublished_58 hf).1
    · rw [if_neg hc] at hf; exact (q_X2_isPublished_62 hf).1
  refine ⟨by omega, fun X g K ok nmx lev hK en => ?_⟩
  refine tj_aload_n ok 0 dX2_isPublished_36 rfl rfl ?_
  refine tj_getR (k := 7) ok fcX2 (by decide) wm_154 rfl (Or.inl ⟨_, rfl⟩) dX2_isPublished_37 e1 ?_
  refine tj_getR (k := 9) ok fcX0 (by decide) wm_268 rfl (Or.inr ⟨_, rfl⟩) dX2_isPublished_40 e2 ?_
  refine tj_iload_n ok 1 dX2_isPublished_43 rfl rfl ?_
  refine tj_bipush (v := 7) ok dX2_isPublished_44 (by decide) ?_
  refine tj_iand ok dX2_isPublished_46 ?_
  refine tj_iaload ok dX2_isPublished_47 e3 ?_
  refine tj_aload_n ok 0 dX2_isPublished_48 rfl rfl ?_
  refine tj_getR (k := 7) ok fcX2 (by decide) wm_154 rfl (Or.inl ⟨_, rfl⟩) dX2_isPublished_49 e4 ?_
  refine tj_getI (k := 16) ok fcX0 (by decide) wm_303 rfl (Or.inl rfl) dX2_isPublished_52 e5 ?_
  refine tj_icmp_ne (tgt := 62) ok dX2_isPublished_55 (by decide) (fun hc => ?_) (fun hc => ?_)
  · rw [if_neg hc] at hf
    refine tj_sub (lv' := []) [] rfl ?_
    exact (q_X2_isPublished_62 hf).2 X g K ok nmx lev hK en
  · rw [if_pos hc] at hf
    refine tj_sub (lv' := []) [] rfl ?_
    exact (q_X2_isPublished_58 hf).2 X g K ok nmx lev hK en
def b_X2_isPublished_25 (a0 : Nat) (a1 : Int32) (h : AH) : Option (Int32 × AH) :=
  (g_r h a0 2 7).bind fun x1 => (g_i h x1 0 17).bind fun x2 => if a1 ≤ x2 then b_X2_isPublished_62 h else b_X2_isPublished_36 a0 a1 h
set_option maxHeartbeats 4000000 in
set_option maxRecDepth 100000 in
theorem q_X2_isPublished_25 {a0 : Nat} {a1 : Int32} {h hE : AH} {v : Int32} (hf : b_X2_isPublished_25 a0 a1 h = some (v, hE)) : JD cX2_isPublished 2 RX2 "isPublished" (some .boolean) (2) 25 [(0, .inr (.inr (a0))), (1, .inl (a1))] [] h hE (some (.inl (v))) := by
  unfold b_X2_isPublished_25 at hf
  obtain ⟨x1, e1, hf⟩ := bnd hf
  obtain ⟨x2, e2, hf⟩ := bnd hf
  have mE : hp_n h ≤ hp_n hE ∧ hp_s h ≤ hp_s hE := by
    by_cases hc : a1 ≤ x2
    · rw [if_pos hc] at hf; exact (q_X2_isPublished_62 hf).1
    · rw [if_neg hc] at hf; exact (q_X2_isPublished_36 hf).1
  refine ⟨by omega, fun X g K ok nmx lev hK en => ?_⟩
  refine tj_iload_n ok 1 dX2_isPublished_25 rfl rfl ?_
  refine tj_aload_n ok 0 dX2_isPublished_26 rfl rfl ?_
  refine tj_getR (k := 7) ok fcX2 (by decide) wm_154 rfl (Or.inl ⟨_, rfl⟩) dX2_isPublished_27 e1 ?_
  refine tj_getI (k := 17) ok fcX0 (by decide) wm_291 rfl (Or.inl rfl) dX2_isPublished_30 e2 ?_
  refine tj_icmp_le (tgt := 62) ok dX2_isPublished_33 (by decide) (fun hc => ?_) (fun hc => ?_)
  · rw [if_pos hc] at hf
    refine tj_sub (lv' := []) [] rfl ?_
    exact (q_X2_isPublished_62 hf).2 X g K ok nmx lev hK en
  · rw [if_neg hc] at hf
    exact (q_X2_isPublished_36 hf).2 X g K ok nmx lev hK en
def b_X2_isPublished_14 (a0 : Nat) (a1 : Int32) (h : AH) : Option (Int32 × AH) :=
  (g_r h a0 2 7).bind fun x1 => (g_i h x1 0 17).bind fun x2 => if x2 = (-1 : Int32) then b_X2_isPublished_62 h else b_X2_isPublished_25 a0 a1 h
set_option maxHeartbeats 4000000 in
set_option maxRecDepth 100000 in
theorem q_X2_isPublished_14 {a0 : Nat} {a1 : Int32} {h hE : AH} {v : Int32} (hf : b_X2_isPublished_14 a0 a1 h = some (v, hE)) : JD cX2_isPublished 2 RX2 "isPublished" (some .boolean) (2) 14 [(0, .inr (.inr (a0))), (1, .inl (a1))] [] h hE (some (.inl (v))) := by
  unfold b_X2_isPublished_14 at hf
  obtain ⟨x1, e1, hf⟩ := bnd hf
  obtain ⟨x2, e2, hf⟩ := bnd hf
  have mE : hp_n h ≤ hp_n hE ∧ hp_s h ≤ hp_s hE := by
    by_cases hc : x2 = (-1 : Int32)
    · rw [if_pos hc] at hf; exact (q_X2_isPublished_62 hf).1
    · rw [if_neg hc] at hf; exact (q_X2_isPublished_25 hf).1
  refine ⟨by omega, fun X g K ok nmx lev hK en => ?_⟩
  refine tj_aload_n ok 0 dX2_isPublished_14 rfl rfl ?_
  refine tj_getR (k := 7) ok fcX2 (by decide) wm_154 rfl (Or.inl ⟨_, rfl⟩) dX2_isPublished_15 e1 ?_
  refine tj_getI (k := 17) ok fcX0 (by decide) wm_291 rfl (Or.inl rfl) dX2_isPublished_18 e2 ?_
  refine tj_iconst (v := -1) ok dX2_isPublished_21 (by decide) ?_
  refine tj_icmp_eq (tgt := 62) ok dX2_isPublished_22 (by decide) (fun hc => ?_) (fun hc => ?_)
  · rw [if_pos hc] at hf
    refine tj_sub (lv' := []) [] rfl ?_
    exact (q_X2_isPublished_62 hf).2 X g K ok nmx lev hK en
  · rw [if_neg hc] at hf
    exact (q_X2_isPublished_25 hf).2 X g K ok nmx lev hK en
def b_X2_isPublished_8 (a0 : Nat) (a1 : Int32) (h : AH) : Option (Int32 × AH) :=
  if (8 : Int32) ≤ a1 then b_X2_isPublished_62 h else b_X2_isPublished_14 a0 a1 h
set_option maxHeartbeats 4000000 in
set_option maxRecDepth 100000 in
theorem q_X2_isPublished_8 {a0 : Nat} {a1 : Int32} {h hE : AH} {v : Int32} (hf : b_X2_isPublished_8 a0 a1 h = some (v, hE)) : JD cX2_isPublished 2 RX2 "isPublished" (some .boolean) (2) 8 [(0, .inr (.inr (a0))), (1, .inl (a1))] [] h hE (some (.inl (v))) := by
  unfold b_X2_isPublished_8 at hf
  have mE : hp_n h ≤ hp_n hE ∧ hp_s h ≤ hp_s hE := by
    by_cases hc : (8 : Int32) ≤ a1
    · rw [if_pos hc] at hf; exact (q_X2_isPublished_62 hf).1
    · rw [if_neg hc] at hf; exact (q_X2_isPublished_14 hf).1
  refine ⟨by omega, fun X g K ok nmx lev hK en => ?_⟩
  refine tj_iload_n ok 1 dX2_isPublished_8 rfl rfl ?_
  refine tj_bipush (v := 8) ok dX2_isPublished_9 (by decide) ?_
  refine tj_icmp_ge (tgt := 62) ok dX2_isPublished_11 (by decide) (fun hc => ?_) (fun hc => ?_)
  · rw [if_pos hc] at hf
    refine tj_sub (lv' := []) [] rfl ?_
    exact (q_X2_isPublished_62 hf).2 X g K ok nmx lev hK en
  · rw [if_neg hc] at hf
    exact (q_X2_isPublished_14 hf).2 X g K ok nmx lev hK en
def b_X2_isPublished_0 (a0 : Nat) (a1 : Int32) (h : AH) : Option (Int32 × AH) :=
  (g_i h a0 2 3).bind fun x1 => if x1 = (2 : Int32) then b_X2_isPublished_8 a0 a1 h else b_X2_isPublished_62 h
set_option maxHeartbeats 4000000 in
set_option maxRecDepth 100000 in
theorem q_X2_isPublished_0 {a0 : Nat} {a1 : Int32} {h hE : AH} {v : Int32} (hf : b_X2_isPublished_0 a0 a1 h = some (v, hE)) : JD cX2_isPublished 2 RX2 "isPublished" (some .boolean) (2) 0 [(0, .inr (.inr (a0))), (1, .inl (a1))] [] h hE (some (.inl (v))) := by
  unfold b_X2_isPublished_0 at hf
  obtain ⟨x1, e1, hf⟩ := bnd hf
  have mE : hp_n h ≤ hp_n hE ∧ hp_s h ≤ hp_s hE := by
    by_cases hc : x1 = (2 : Int32)
    · rw [if_pos hc] at hf; exact (q_X2_isPublished_8 hf).1
    · rw [if_neg hc] at hf; exact (q_X2_isPublished_62 hf).1
  refine ⟨by omega, fun X g K ok nmx lev hK en => ?_⟩
  refine tj_aload_n ok 0 dX2_isPublished_0 rfl rfl ?_
  refine tj_getI (k := 3) ok fcX2 (by decide) wm_147 rfl (Or.inl rfl) dX2_isPublished_1 e1 ?_
  refine tj_iconst (v := 2) ok dX2_isPublished_4 (by decide) ?_
  refine tj_icmp_ne (tgt := 62) ok dX2_isPublished_5 (by decide) (fun hc => ?_) (fun hc => ?_)
  · rw [if_neg hc] at hf
    refine tj_sub (lv' := []) [] rfl ?_
    exact (q_X2_isPublished_62 hf).2 X g K ok nmx lev hK en
  · rw [if_pos hc] at hf
    exact (q_X2_isPublished_8 hf).2 X g K ok nmx lev hK en
def f_X2_isPublished (a0 : Nat) (a1 : Int32) (h : AH) : Option (Int32 × AH) := b_X2_isPublished_0  a0 a1 h
theorem c_X2_isPublished {a0 : Nat} {a1 : Int32} {h hE : AH} {v : Int32} (hf : f_X2_isPublished a0 a1 h = some (v, hE)) : ∀ g : GT, CM g (2) yX2_isPublished cX2_isPublished 2 (some .boolean) h [.inr (.inr (a0)), .inl (a1)] hE (some (.inl (v))) :=
  CM.ofJ (by decide) (by show _ ≤ 2; exact Nat.le_of_ble_eq_true rfl) (q_X2_isPublished_0 hf)
/-! ===== LitmusHouse$Machine.nextOf(I)I ===== -/
def b_X2_nextOf_0 (a0 : Nat) (a1 : Int32) (h : AH) : Option (Int32 × AH) :=
  (g_j h a0 2 0).bind fun x1 => some (((us_j x1 ((4 : Int32) * a1)).toInt32) &&& (15 : Int32), h)
set_option maxHeartbeats 4000000 in
set_option maxRecDepth 100000 in
theorem q_X2_nextOf_0 {a0 : Nat} {a1 : Int32} {h hE : AH} {v : Int32} (hf : b_X2_nextOf_0 a0 a1 h = some (v, hE)) : JD cX2_nextOf 2 RX2 "nextOf" (some .int) (2) 0 [(0, .inr (.inr (a0))), (1, .inl (a1))] [] h hE (some (.inl (v))) := by
  unfold b_X2_nextOf_0 at hf
  obtain ⟨x1, e1, hf⟩ := bnd hf
  obtain ⟨hv, hh⟩ := Prod.mk.inj (Option.some.inj hf)
  subst hv
  subst hh
  have mE : hp_n h ≤ hp_n h ∧ hp_s h ≤ hp_s h := ⟨Nat.le_refl _, Nat.le_refl _⟩
  refine ⟨by omega, fun X g K ok nmx lev hK en => ?_⟩
  refine tj_aload_n ok 0 dX2_nextOf_0 rfl rfl ?_
  refine tj_getJ (k := 0) ok fcX2 (by decide) wm_144 rfl rfl dX2_nextOf_1 e1 ?_
  refine tj_iconst (v := 4) ok dX2_nextOf_4 (by decide) ?_
  refine tj_iload_n ok 1 dX2_nextOf_5 rfl rfl ?_
  refine tj_imul ok dX2_nextOf_6 ?_
  refine tj_lushr ok dX2_nextOf_7 ?_
  refine tj_l2i ok dX2_nextOf_8 ?_
  refine tj_bipush (v := 15) ok dX2_nextOf_9 (by decide) ?_
  refine tj_iand ok dX2_nextOf_11 ?_
  exact tj_ireturn ok en dX2_nextOf_12
def f_X2_nextOf (a0 : Nat) (a1 : Int32) (h : AH) : Option (Int32 × AH) := b_X2_nextOf_0  a0 a1 h
theorem c_X2_nextOf {a0 : Nat} {a1 : Int32} {h hE : AH} {v : Int32} (hf : f_X2_nextOf a0 a1 h = some (v, hE)) : ∀ g : GT, CM g (2) yX2_nextOf cX2_nextOf 2 (some .int) h [.inr (.inr (a0)), .inl (a1)] hE (some (.inl (v))) :=
  CM.ofJ (by decide) (by show _ ≤ 2; exact Nat.le_of_ble_eq_true rfl) (q_X2_nextOf_0 hf)
/-! ===== LitmusHouse$Machine.inCell(I)I ===== -/
def b_X2_inCell_0 (a0 : Nat) (a1 : Int32) (h : AH) : Option (Int32 × AH) :=
  (g_j h a0 2 1).bind fun x1 => some (((us_j x1 ((4 : Int32) * a1)).toInt32) &&& (15 : Int32), h)
set_option maxHeartbeats 4000000 in
set_option maxRecDepth 100000 in
theorem q_X2_inCell_0 {a0 : Nat} {a1 : Int32} {h hE : AH} {v : Int32} (hf : b_X2_inCell_0 a0 a1 h = some (v, hE)) : JD cX2_inCell 2 RX2 "inCell" (some .int) (2) 0 [(0, .inr (.inr (a0))), (1, .inl (a1))] [] h hE (some (.inl (v))) := by
  unfold b_X2_inCell_0 at hf
  obtain ⟨x1, e1, hf⟩ := bnd hf
  obtain ⟨hv, hh⟩ := Prod.mk.inj (Option.some.inj hf)
  subst hv
  subst hh
  have mE : hp_n h ≤ hp_n h ∧ hp_s h ≤ hp_s h := ⟨Nat.le_refl _, Nat.le_refl _⟩
  refine ⟨by omega, fun X g K ok nmx lev hK en => ?_⟩
  refine tj_aload_n ok 0 dX2_inCell_0 rfl rfl ?_
  refine tj_getJ (k := 1) ok fcX2 (by decide) wm_145 rfl rfl dX2_inCell_1 e1 ?_
  refine tj_iconst (v := 4) ok dX2_inCell_4 (by decide) ?_
  refine tj_iload_n ok 1 dX2_inCell_5 rfl rfl ?_
  refine tj_imul ok dX2_inCell_6 ?_
  refine tj_lushr ok dX2_inCell_7 ?_
  refine tj_l2i ok dX2_inCell_8 ?_
  refine tj_bipush (v := 15) ok dX2_inCell_9 (by decide) ?_
  refine tj_iand ok dX2_inCell_11 ?_
  exact tj_ireturn ok en dX2_inCell_12
def f_X2_inCell (a0 : Nat) (a1 : Int32) (h : AH) : Option (Int32 × AH) := b_X2_inCell_0  a0 a1 h
theorem c_X2_inCell {a0 : Nat} {a1 : Int32} {h hE : AH} {v : Int32} (hf : f_X2_inCell a0 a1 h = some (v, hE)) : ∀ g : GT, CM g (2) yX2_inCell cX2_inCell 2 (some .int) h [.inr (.inr (a0)), .inl (a1)] hE (some (.inl (v))) :=
  CM.ofJ (by decide) (by show _ ≤ 2; exact Nat.le_of_ble_eq_true rfl) (q_X2_inCell_0 hf)
/-! ===== LitmusHouse$Machine.queueOf(I)I ===== -/
def b_X2_queueOf_0 (a0 : Nat) (a1 : Int32) (h : AH) : Option (Int32 × AH) :=
  (g_j h a0 2 0).bind fun x1 => (g_r h a0 2 6).bind fun x2 => (l_i h x2 (a1 &&& (3 : Int32))).bind fun x3 => some (((us_j x1 (55 : Int32)).toInt32) &&& x3, h)
set_option maxHeartbeats 4000000 in
set_option maxRecDepth 100000 in
theorem q_X2_queueOf_0 {a0 : Nat} {a1 : Int32} {h hE : AH} {v : Int32} (hf : b_X2_queueOf_0 a0 a1 h = some (v, hE)) : JD cX2_queueOf 2 RX2 "queueOf" (some .int) (2) 0 [(0, .inr (.inr (a0))), (1, .inl (a1))] [] h hE (some (.inl (v))) := by
  unfold b_X2_queueOf_0 at hf
  obtain ⟨x1, e1, hf⟩ := bnd hf
  obtain ⟨x2, e2, hf⟩ := bnd hf
  obtain ⟨x3, e3, hf⟩ := bnd hf
  obtain ⟨hv, hh⟩ := Prod.mk.inj (Option.some.inj hf)
  subst hv
  subst hh
  have mE : hp_n h ≤ hp_n h ∧ hp_s h ≤ hp_s h := ⟨Nat.le_refl _, Nat.le_refl _⟩
  refine ⟨by omega, fun X g K ok nmx lev hK en => ?_⟩
  refine tj_aload_n ok 0 dX2_queueOf_0 rfl rfl ?_
  refine tj_getJ (k := 0) ok fcX2 (by decide) wm_144 rfl rfl dX2_queueOf_1 e1 ?_
  refine tj_bipush (v := 55) ok dX2_queueOf_4 (by decide) ?_
  refine tj_lushr ok dX2_queueOf_6 ?_
  refine tj_l2i ok dX2_queueOf_7 ?_
  refine tj_aload_n ok 0 dX2_queueOf_8 rfl rfl ?_
  refine tj_getR (k := 6) ok fcX2 (by decide) wm_150 rfl (Or.inr ⟨_, rfl⟩) dX2_queueOf_9 e2 ?_
  refine tj_iload_n ok 1 dX2_queueOf_12 rfl rfl ?_
  refine tj_iconst (v := 3) ok dX2_queueOf_13 (by decide) ?_
  refine tj_iand ok dX2_queueOf_14 ?_
  refine tj_iaload ok dX2_queueOf_15 e3 ?_
  refine tj_iand ok dX2_queueOf_16 ?_
  exact tj_ireturn ok en dX2_queueOf_17
def f_X2_queueOf (a0 : Nat) (a1 : Int32) (h : AH) : Option (Int32 × AH) := b_X2_queueOf_0  a0 a1 h
theorem c_X2_queueOf {a0 : Nat} {a1 : Int32} {h hE : AH} {v : Int32} (hf : f_X2_queueOf a0 a1 h = some (v, hE)) : ∀ g : GT, CM g (2) yX2_queueOf cX2_queueOf 2 (some .int) h [.inr (.inr (a0)), .inl (a1)] hE (some (.inl (v))) :=
  CM.ofJ (by decide) (by show _ ≤ 2; exact Nat.le_of_ble_eq_true rfl) (q_X2_queueOf_0 hf)
/-! ===== LitmusHouse$Machine.writtenBy(I)I ===== -/
def b_X2_writtenBy_25 (s0 : Int32) (h : AH) : Option (Int32 × AH) :=
  some (s0, h)
set_option maxHeartbeats 4000000 in
set_option maxRecDepth 100000 in
theorem q_X2_writtenBy_25 {s0 : Int32} {h hE : AH} {v : Int32} (hf : b_X2_writtenBy_25 s0 h = some (v, hE)) : JD cX2_writtenBy 2 RX2 "writtenBy" (some .int) (2) 25 [] [.inl (s0)] h hE (some (.inl (v))) := by
  unfold b_X2_writtenBy_25 at hf
  obtain ⟨hv, hh⟩ := Prod.mk.inj (Option.some.inj hf)
  subst hv
  subst hh
  have mE : hp_n h ≤ hp_n h ∧ hp_s h ≤ hp_s h := ⟨Nat.le_refl _, Nat.le_refl _⟩
  refine ⟨by omega, fun X g K ok nmx lev hK en => ?_⟩
  exact tj_ireturn ok en dX2_writtenBy_25
def b_X2_writtenBy_24  (h : AH) : Option (Int32 × AH) :=
  b_X2_writtenBy_25 (0 : Int32) h
set_option maxHeartbeats 4000000 in
set_option maxRecDepth 100000 in
theorem q_X2_writtenBy_24 {h hE : AH} {v : Int32} (hf : b_X2_writtenBy_24  h = some (v, hE)) : JD cX2_writtenBy 2 RX2 "writtenBy" (some .int) (2) 24 [] [] h hE (some (.inl (v))) := by
  unfold b_X2_writtenBy_24 at hf
  have J := q_X2_writtenBy_25 hf
  have mE := J.1
  refine ⟨by omega, fun X g K ok nmx lev hK en => ?_⟩
  refine tj_iconst (v := 0) ok dX2_writtenBy_24 (by decide) ?_
  exact J.2 X g K ok nmx lev hK en
def b_X2_writtenBy_6 (a0 : Nat) (a1 : Int32) (h : AH) : Option (Int32 × AH) :=
  (g_j h a0 2 1).bind fun x1 => b_X2_writtenBy_25 (((us_j x1 ((24 : Int32) + ((4 : Int32) * a1))).toInt32) &&& (15 : Int32)) h
set_option maxHeartbeats 4000000 in
set_option maxRecDepth 100000 in
theorem q_X2_writtenBy_6 {a0 : Nat} {a1 : Int32} {h hE : AH} {v : Int32} (hf : b_X2_writtenBy_6 a0 a1 h = some (v, hE)) : JD cX2_writtenBy 2 RX2 "writtenBy" (some .int) (2) 6 [(0, .inr (.inr (a0))), (1, .inl (a1))] [] h hE (some (.inl (v))) := by
  unfold b_X2_writtenBy_6 at hf
  obtain ⟨x1, e1, hf⟩ := bnd hf
  have J := q_X2_writtenBy_25 hf
  have mE := J.1
  refine ⟨by omega, fun X g K ok nmx lev hK en => ?_⟩
  refine tj_aload_n ok 0 dX2_writtenBy_6 rfl rfl ?_
  refine tj_getJ (k := 1) ok fcX2 (by decide) wm_145 rfl rfl dX2_writtenBy_7 e1 ?_
  refine tj_bipush (v := 24) ok dX2_writtenBy_10 (by decide) ?_
  refine tj_iconst (v := 4) ok dX2_writtenBy_12 (by decide) ?_
  refine tj_iload_n ok 1 dX2_writtenBy_13 rfl rfl ?_
  refine tj_imul ok dX2_writtenBy_14 ?_
  refine tj_iadd ok dX2_writtenBy_15 ?_
  refine tj_lushr ok dX2_writtenBy_16 ?_
  refine tj_l2i ok dX2_writtenBy_17 ?_
  refine tj_bipush (v := 15) ok dX2_writtenBy_18 (by decide) ?_
  refine tj_iand ok dX2_writtenBy_20 ?_
  refine tj_goto (tgt := 25) ok dX2_writtenBy_21 (by decide) ?_
  refine tj_sub (lv' := []) [] rfl ?_
  exact J.2 X g K ok nmx lev hK en
def b_X2_writtenBy_0 (a0 : Nat) (a1 : Int32) (h : AH) : Option (Int32 × AH) :=
  if (8 : Int32) ≤ a1 then b_X2_writtenBy_24 h else b_X2_writtenBy_6 a0 a1 h
set_option maxHeartbeats 4000000 in
set_option maxRecDepth 100000 in
theorem q_X2_writtenBy_0 {a0 : Nat} {a1 : Int32} {h hE : AH} {v : Int32} (hf : b_X2_writtenBy_0 a0 a1 h = some (v, hE)) : JD cX2_writtenBy 2 RX2 "writtenBy" (some .int) (2) 0 [(0, .inr (.inr (a0))), (1, .inl (a1))] [] h hE (some (.inl (v))) := by
  unfold b_X2_writtenBy_0 at hf
  have mE : hp_n h ≤ hp_n hE ∧ hp_s h ≤ hp_s hE := by
    by_cases hc : (8 : Int32) ≤ a1
    · rw [if_pos hc] at hf; exact (q_X2_writtenBy_24 hf).1
    · rw [if_neg hc] at hf; exact (q_X2_writtenBy_6 hf).1
  refine ⟨by omega, fun X g K ok nmx lev hK en => ?_⟩
  refine tj_iload_n ok 1 dX2_writtenBy_0 rfl rfl ?_
  refine tj_bipush (v := 8) ok dX2_writtenBy_1 (by decide) ?_
  refine tj_icmp_ge (tgt := 24) ok dX2_writtenBy_3 (by decide) (fun hc => ?_) (fun hc => ?_)
  · rw [if_pos hc] at hf
    refine tj_sub (lv' := []) [] rfl ?_
    exact (q_X2_writtenBy_24 hf).2 X g K ok nmx lev hK en
  · rw [if_neg hc] at hf
    exact (q_X2_writtenBy_6 hf).2 X g K ok nmx lev hK en
def f_X2_writtenBy (a0 : Nat) (a1 : Int32) (h : AH) : Option (Int32 × AH) := b_X2_writtenBy_0  a0 a1 h
theorem c_X2_writtenBy {a0 : Nat} {a1 : Int32} {h hE : AH} {v : Int32} (hf : f_X2_writtenBy a0 a1 h = some (v, hE)) : ∀ g : GT, CM g (2) yX2_writtenBy cX2_writtenBy 2 (some .int) h [.inr (.inr (a0)), .inl (a1)] hE (some (.inl (v))) :=
  CM.ofJ (by decide) (by show _ ≤ 2; exact Nat.le_of_ble_eq_true rfl) (q_X2_writtenBy_0 hf)
/-! ===== LitmusHouse$Machine.seenValue(III)I ===== -/
def b_X2_seenValue_63 (a0 : Nat) (a2 : Int32) (h : AH) : Option (Int32 × AH) :=
  (ok_v h a0 2).bind fun x1 => (f_X2_inCell a0 a2 h).bind fun q2 => some (q2.1, q2.2)
set_option maxHeartbeats 4000000 in
set_option maxRecDepth 100000 in
theorem q_X2_seenValue_63 {a0 : Nat} {a2 : Int32} {h hE : AH} {v : Int32} (hf : b_X2_seenValue_63 a0 a2 h = some (v, hE)) : JD cX2_seenValue 6 RX2 "seenValue" (some .int) (3) 63 [(0, .inr (.inr (a0))), (2, .inl (a2))] [] h hE (some (.inl (v))) := by
  unfold b_X2_seenValue_63 at hf
  obtain ⟨x1, e1, hf⟩ := bnd hf
  obtain ⟨⟨x2, h2⟩, e2, hf⟩ := bnd hf
  try dsimp only at hf
  have k2 := c_X2_inCell e2
  have m2 := (k2 default_g).1
  obtain ⟨hv, hh⟩ := Prod.mk.inj (Option.some.inj hf)
  subst hv
  subst hh
  have mE : hp_n h2 ≤ hp_n h2 ∧ hp_s h2 ≤ hp_s h2 := ⟨Nat.le_refl _, Nat.le_refl _⟩
  refine ⟨by omega, fun X g K ok nmx lev hK en => ?_⟩
  refine tj_aload_n ok 0 dX2_seenValue_63 rfl rfl ?_
  refine tj_iload_n ok 1 dX2_seenValue_64 rfl rfl ?_
  refine tj_callV (rest := ([] : List TV).map (vl g)) (as := [.inl (a2)]) ok lev (by omega) fcX2.1 (by decide) rfl (of_if e1).1 (k2 g) (CaX.of en (by omega)) kn_X2_inCell wm_309 wm_310 wm_311 (rs_ok (Nat.le_of_ble_eq_true rfl)) rfl rfl dX2_seenValue_65 ?_
  exact tj_ireturn ok en dX2_seenValue_68
def b_X2_seenValue_57 (r35 : Nat → Int32 → Int32 → Int32 → AH → Option (Int32 × AH)) (a0 : Nat) (a2 : Int32) (a4 : Int32) (a5 : Int32) (h : AH) : Option (Int32 × AH) :=
  r35 a0 a2 a4 (a5 + (-1 : Int32)) h
set_option maxHeartbeats 4000000 in
set_option maxRecDepth 100000 in
theorem q_X2_seenValue_57 {hE : AH} {v : Int32} {r35 : Nat → Int32 → Int32 → Int32 → AH → Option (Int32 × AH)} (hr35 : ∀ (b0 : Nat) (b2 : Int32) (b4 : Int32) (b5 : Int32) (h : AH), r35 b0 b2 b4 b5 h = some (v, hE) → JD cX2_seenValue 6 RX2 "seenValue" (some .int) (3) 35 [(0, .inr (.inr (b0))), (2, .inl (b2)), (4, .inl (b4)), (5, .inl (b5))] [] h hE (some (.inl (v)))) {a0 : Nat} {a2 : Int32} {a4 : Int32} {a5 : Int32} {h : AH} (hf : b_X2_seenValue_57 r35 a0 a2 a4 a5 h = some (v, hE)) : JD cX2_seenValue 6 RX2 "seenValue" (some .int) (3) 57 [(0, .inr (.inr (a0))), (2, .inl (a2)), (4, .inl (a4)), (5, .inl (a5))] [] h hE (some (.inl (v))) := by
  unfold b_X2_seenValue_57 at hf
  have J := hr35 _ _ _ _ _ hf
  have mE := J.1
  refine ⟨by omega, fun X g K ok nmx lev hK en => ?_⟩
  refine tj_iinc (lv' := [(0, .inr (.inr (a0))), (2, .inl (a2)), (4, .inl (a4)), (5, .inl (a5 + (-1 : Int32)))]) ok 3 dX2_seenValue_57 rfl (rfl) (by decide) rfl ?_
  refine tj_goto (tgt := 35) ok dX2_seenValue_60 (by decide) ?_
  exact J.2 X g K ok nmx lev hK en
def b_X2_seenValue_50 (a0 : Nat) (a5 : Int32) (h : AH) : Option (Int32 × AH) :=
  (ok_v h a0 2).bind fun x1 => (f_X2_writtenBy a0 a5 h).bind fun q2 => some (q2.1, q2.2)
set_option maxHeartbeats 4000000 in
set_option maxRecDepth 100000 in
theorem q_X2_seenValue_50 {a0 : Nat} {a5 : Int32} {h hE : AH} {v : Int32} (hf : b_X2_seenValue_50 a0 a5 h = some (v, hE)) : JD cX2_seenValue 6 RX2 "seenValue" (some .int) (3) 50 [(0, .inr (.inr (a0))), (5, .inl (a5))] [] h hE (some (.inl (v))) := by
  unfold b_X2_seenValue_50 at hf
  obtain ⟨x1, e1, hf⟩ := bnd hf
  obtain ⟨⟨x2, h2⟩, e2, hf⟩ := bnd hf
  try dsimp only at hf
  have k2 := c_X2_writtenBy e2
  have m2 := (k2 default_g).1
  obtain ⟨hv, hh⟩ := Prod.mk.inj (Option.some.inj hf)
  subst hv
  subst hh
  have mE : hp_n h2 ≤ hp_n h2 ∧ hp_s h2 ≤ hp_s h2 := ⟨Nat.le_refl _, Nat.le_refl _⟩
  refine ⟨by omega, fun X g K ok nmx lev hK en => ?_⟩
  refine tj_aload_n ok 0 dX2_seenValue_50 rfl rfl ?_
  refine tj_iload ok 1 dX2_seenValue_51 rfl ?_
  refine tj_callV (rest := ([] : List TV).map (vl g)) (as := [.inl (a5)]) ok lev (by omega) fcX2.1 (by decide) rfl (of_if e1).1 (k2 g) (CaX.of en (by omega)) kn_X2_writtenBy wm_312 wm_313 wm_314 (rs_ok (Nat.le_of_ble_eq_true rfl)) rfl rfl dX2_seenValue_53 ?_
  exact tj_ireturn ok en dX2_seenValue_56
def b_X2_seenValue_40 (r35 : Nat → Int32 → Int32 → Int32 → AH → Option (Int32 × AH)) (a0 : Nat) (a2 : Int32) (a4 : Int32) (a5 : Int32) (h : AH) : Option (Int32 × AH) :=
  if ((a4 >>> (a5 &&& 31)) &&& (1 : Int32)) = 0 then b_X2_seenValue_57 r35 a0 a2 a4 a5 h else b_X2_seenValue_50 a0 a5 h
set_option maxHeartbeats 4000000 in
set_option maxRecDepth 100000 in
theorem q_X2_seenValue_40 {hE : AH} {v : Int32} {r35 : Nat → Int32 → Int32 → Int32 → AH → Option (Int32 × AH)} (hr35 : ∀ (b0 : Nat) (b2 : Int32) (b4 : Int32) (b5 : Int32) (h : AH), r35 b0 b2 b4 b5 h = some (v, hE) → JD cX2_seenValue 6 RX2 "seenValue" (some .int) (3) 35 [(0, .inr (.inr (b0))), (2, .inl (b2)), (4, .inl (b4)), (5, .inl (b5))] [] h hE (some (.inl (v)))) {a0 : Nat} {a2 : Int32} {a4 : Int32} {a5 : Int32} {h : AH} (hf : b_X2_seenValue_40 r35 a0 a2 a4 a5 h = some (v, hE)) : JD cX2_seenValue 6 RX2 "seenValue" (some .int) (3) 40 [(0, .inr (.inr (a0))), (2, .inl (a2)), (4, .inl (a4)), (5, .inl (a5))] [] h hE (some (.inl (v))) := by
  unfold b_X2_seenValue_40 at hf
  have mE : hp_n h ≤ hp_n hE ∧ hp_s h ≤ hp_s hE := by
    by_cases hc : ((a4 >>> (a5 &&& 31)) &&& (1 : Int32)) = 0
    · rw [if_pos hc] at hf; exact (q_X2_seenValue_57 hr35 hf).1
    · rw [if_neg hc] at hf; exact (q_X2_seenValue_50 hf).1
  refine ⟨by omega, fun X g K ok nmx lev hK en => ?_⟩
  refine tj_iload ok 2 dX2_seenValue_40 rfl ?_
  refine tj_iload ok 3 dX2_seenValue_42 rfl ?_
  refine tj_ishr ok dX2_seenValue_44 ?_
  refine tj_iconst (v := 1) ok dX2_seenValue_45 (by decide) ?_
  refine tj_iand ok dX2_seenValue_46 ?_
  refine tj_if_eq (tgt := 57) ok dX2_seenValue_47 (by decide) (fun hc => ?_) (fun hc => ?_)
  · rw [if_pos hc] at hf
    exact (q_X2_seenValue_57 hr35 hf).2 X g K ok nmx lev hK en
  · rw [if_neg hc] at hf
    refine tj_sub (lv' := [(0, .inr (.inr (a0))), (5, .inl (a5))]) [0, 3] rfl ?_
    exact (q_X2_seenValue_50 hf).2 X g K ok nmx lev hK en
def b_X2_seenValue_35 (r35 : Nat → Int32 → Int32 → Int32 → AH → Option (Int32 × AH)) (a0 : Nat) (a2 : Int32) (a4 : Int32) (a5 : Int32) (h : AH) : Option (Int32 × AH) :=
  if a5 < 0 then b_X2_seenValue_63 a0 a2 h else b_X2_seenValue_40 r35 a0 a2 a4 a5 h
set_option maxHeartbeats 4000000 in
set_option maxRecDepth 100000 in
theorem q_X2_seenValue_35 {hE : AH} {v : Int32} {r35 : Nat → Int32 → Int32 → Int32 → AH → Option (Int32 × AH)} (hr35 : ∀ (b0 : Nat) (b2 : Int32) (b4 : Int32) (b5 : Int32) (h : AH), r35 b0 b2 b4 b5 h = some (v, hE) → JD cX2_seenValue 6 RX2 "seenValue" (some .int) (3) 35 [(0, .inr (.inr (b0))), (2, .inl (b2)), (4, .inl (b4)), (5, .inl (b5))] [] h hE (some (.inl (v)))) {a0 : Nat} {a2 : Int32} {a4 : Int32} {a5 : Int32} {h : AH} (hf : b_X2_seenValue_35 r35 a0 a2 a4 a5 h = some (v, hE)) : JD cX2_seenValue 6 RX2 "seenValue" (some .int) (3) 35 [(0, .inr (.inr (a0))), (2, .inl (a2)), (4, .inl (a4)), (5, .inl (a5))] [] h hE (some (.inl (v))) := by
  unfold b_X2_seenValue_35 at hf
  have mE : hp_n h ≤ hp_n hE ∧ hp_s h ≤ hp_s hE := by
    by_cases hc : a5 < 0
    · rw [if_pos hc] at hf; exact (q_X2_seenValue_63 hf).1
    · rw [if_neg hc] at hf; exact (q_X2_seenValue_40 hr35 hf).1
  refine ⟨by omega, fun X g K ok nmx lev hK en => ?_⟩
  refine tj_iload ok 3 dX2_seenValue_35 rfl ?_
  refine tj_if_lt (tgt := 63) ok dX2_seenValue_37 (by decide) (fun hc => ?_) (fun hc => ?_)
  · rw [if_pos hc] at hf
    refine tj_sub (lv' := [(0, .inr (.inr (a0))), (2, .inl (a2))]) [0, 1] rfl ?_
    exact (q_X2_seenValue_63 hf).2 X g K ok nmx lev hK en
  · rw [if_neg hc] at hf
    exact (q_X2_seenValue_40 hr35 hf).2 X g K ok nmx lev hK en
def l_X2_seenValue_35 : Nat → Nat → Int32 → Int32 → Int32 → AH → Option (Int32 × AH)
  | 0 => fun _ _ _ _ _ => none
  | n + 1 => fun a0 a2 a4 a5 h => b_X2_seenValue_35 (l_X2_seenValue_35 n) a0 a2 a4 a5 h
theorem ql_X2_seenValue_35 {n : Nat} {a0 : Nat} {a2 : Int32} {a4 : Int32} {a5 : Int32} {h hE : AH} {v : Int32} (hf : l_X2_seenValue_35 n a0 a2 a4 a5 h = some (v, hE)) : JD cX2_seenValue 6 RX2 "seenValue" (some .int) (3) 35 [(0, .inr (.inr (a0))), (2, .inl (a2)), (4, .inl (a4)), (5, .inl (a5))] [] h hE (some (.inl (v))) := by
  induction n generalizing a0 a2 a4 a5 h with
  | zero => cases hf
  | succ n ih => exact q_X2_seenValue_35 (fun _ _ _ _ _ hf => ih hf) hf
def b_X2_seenValue_14 (a0 : Nat) (a1 : Int32) (a2 : Int32) (h : AH) : Option (Int32 × AH) :=
  (ok_v h a0 2).bind fun x1 => (f_X2_queueOf a0 a1 h).bind fun q2 => (g_r q2.2 a0 2 4).bind fun x3 => (l_i q2.2 x3 (a2 &&& (7 : Int32))).bind fun x4 => l_X2_seenValue_35 fu_ a0 a2 (q2.1 &&& x4) (7 : Int32) q2.2
set_option maxHeartbeats 4000000 in
set_option maxRecDepth 100000 in
theorem q_X2_seenValue_14 {a0 : Nat} {a1 : Int32} {a2 : Int32} {h hE : AH} {v : Int32} (hf : b_X2_seenValue_14 a0 a1 a2 h = some (v, hE)) : JD cX2_seenValue 6 RX2 "seenValue" (some .int) (3) 14 [(0, .inr (.inr (a0))), (1, .inl (a1)), (2, .inl (a2))] [] h hE (some (.inl (v))) := by
  unfold b_X2_seenValue_14 at hf
  obtain ⟨x1, e1, hf⟩ := bnd hf
  obtain ⟨⟨x2, h2⟩, e2, hf⟩ := bnd hf
  try dsimp only at hf
  have k2 := c_X2_queueOf e2
  have m2 := (k2 default_g).1
  obtain ⟨x3, e3, hf⟩ := bnd hf
  obtain ⟨x4, e4, hf⟩ := bnd hf
  have J := ql_X2_seenValue_35 hf
  have mE := J.1
  refine ⟨by omega, fun X g K ok nmx lev hK en => ?_⟩
  refine tj_aload_n ok 0 dX2_seenValue_14 rfl rfl ?_
  refine tj_iload_n ok 1 dX2_seenValue_15 rfl rfl ?_
  refine tj_callV (rest := ([] : List TV).map (vl g)) (as := [.inl (a1)]) ok lev (by omega) fcX2.1 (by decide) rfl (of_if e1).1 (k2 g) (CaX.of en (by omega)) kn_X2_queueOf wm_315 wm_316 wm_317 (rs_ok (Nat.le_of_ble_eq_true rfl)) rfl rfl dX2_seenValue_16 ?_
  refine tj_aload_n ok 0 dX2_seenValue_19 rfl rfl ?_
  refine tj_getR (k := 4) ok fcX2 (by decide) wm_148 rfl (Or.inr ⟨_, rfl⟩) dX2_seenValue_20 e3 ?_
  refine tj_iload_n ok 2 dX2_seenValue_23 rfl rfl ?_
  refine tj_bipush (v := 7) ok dX2_seenValue_24 (by decide) ?_
  refine tj_iand ok dX2_seenValue_26 ?_
  refine tj_iaload ok dX2_seenValue_27 e4 ?_
  refine tj_iand ok dX2_seenValue_28 ?_
  refine tj_istore (lv' := [(0, .inr (.inr (a0))), (1, .inl (a1)), (2, .inl (a2)), (4, .inl (x2 &&& x4))]) ok dX2_seenValue_29 (by decide) rfl ?_
  refine tj_bipush (v := 7) ok dX2_seenValue_31 (by decide) ?_
  refine tj_istore (lv' := [(0, .inr (.inr (a0))), (1, .inl (a1)), (2, .inl (a2)), (4, .inl (x2 &&& x4)), (5, .inl ((7 : Int32)))]) ok dX2_seenValue_33 (by decide) rfl ?_
  refine tj_sub (lv' := [(0, .inr (.inr (a0))), (2, .inl (a2)), (4, .inl (x2 &&& x4)), (5, .inl ((7 : Int32)))]) [0, 2, 3, 4] rfl ?_
  exact J.2 X g K ok nmx lev hK en
def b_X2_seenValue_8 (a0 : Nat) (a3 : Int32) (h : AH) : Option (Int32 × AH) :=
  (ok_v h a0 2).bind fun x1 => (f_X2_writtenBy a0 a3 h).bind fun q2 => some (q2.1, q2.2)
set_option maxHeartbeats 4000000 in
set_option maxRecDepth 100000 in
theorem q_X2_seenValue_8 {a0 : Nat} {a3 : Int32} {h hE : AH} {v : Int32} (hf : b_X2_seenValue_8 a0 a3 h = some (v, hE)) : JD cX2_seenValue 6 RX2 "seenValue" (some .int) (3) 8 [(0, .inr (.inr (a0))), (3, .inl (a3))] [] h hE (some (.inl (v))) := by
  unfold b_X2_seenValue_8 at hf
  obtain ⟨x1, e1, hf⟩ := bnd hf
  obtain ⟨⟨x2, h2⟩, e2, hf⟩ := bnd hf
  try dsimp only at hf
  have k2 := c_X2_writtenBy e2
  have m2 := (k2 default_g).1
  obtain ⟨hv, hh⟩ := Prod.mk.inj (Option.some.inj hf)
  subst hv
  subst hh
  have mE : hp_n h2 ≤ hp_n h2 ∧ hp_s h2 ≤ hp_s h2 := ⟨Nat.le_refl _, Nat.le_refl _⟩
  refine ⟨by omega, fun X g K ok nmx lev hK en => ?_⟩
  refine tj_aload_n ok 0 dX2_seenValue_8 rfl rfl ?_
  refine tj_iload_n ok 1 dX2_seenValue_9 rfl rfl ?_
  refine tj_callV (rest := ([] : List TV).map (vl g)) (as := [.inl (a3)]) ok lev (by omega) fcX2.1 (by decide) rfl (of_if e1).1 (k2 g) (CaX.of en (by omega)) kn_X2_writtenBy wm_312 wm_313 wm_314 (rs_ok (Nat.le_of_ble_eq_true rfl)) rfl rfl dX2_seenValue_10 ?_
  exact tj_ireturn ok en dX2_seenValue_13
def b_X2_seenValue_0 (a0 : Nat) (a1 : Int32) (a2 : Int32) (a3 : Int32) (h : AH) : Option (Int32 × AH) :=
  (g_i h a0 2 3).bind fun x1 => if x1 < (2 : Int32) then b_X2_seenValue_14 a0 a1 a2 h else b_X2_seenValue_8 a0 a3 h
set_option maxHeartbeats 4000000 in
set_option maxRecDepth 100000 in
theorem q_X2_seenValue_0 {a0 : Nat} {a1 : Int32} {a2 : Int32} {a3 : Int32} {h hE : AH} {v : Int32} (hf : b_X2_seenValue_0 a0 a1 a2 a3 h = some (v, hE)) : JD cX2_seenValue 6 RX2 "seenValue" (some .int) (3) 0 [(0, .inr (.inr (a0))), (1, .inl (a1)), (2, .inl (a2)), (3, .inl (a3))] [] h hE (some (.inl (v))) := by
  unfold b_X2_seenValue_0 at hf
  obtain ⟨x1, e1, hf⟩ := bnd hf
  have mE : hp_n h ≤ hp_n hE ∧ hp_s h ≤ hp_s hE := by
    by_cases hc : x1 < (2 : Int32)
    · rw [if_pos hc] at hf; exact (q_X2_seenValue_14 hf).1
    · rw [if_neg hc] at hf; exact (q_X2_seenValue_8 hf).1
  refine ⟨by omega, fun X g K ok nmx lev hK en => ?_⟩
  refine tj_aload_n ok 0 dX2_seenValue_0 rfl rfl ?_
  refine tj_getI (k := 3) ok fcX2 (by decide) wm_147 rfl (Or.inl rfl) dX2_seenValue_1 e1 ?_
  refine tj_iconst (v := 2) ok dX2_seenValue_4 (by decide) ?_
  refine tj_icmp_lt (tgt := 14) ok dX2_seenValue_5 (by decide) (fun hc => ?_) (fun hc => ?_)
  · rw [if_pos hc] at hf
    refine tj_sub (lv' := [(0, .inr (.inr (a0))), (1, .inl (a1)), (2, .inl (a2))]) [0, 1, 2] rfl ?_
    exact (q_X2_seenValue_14 hf).2 X g K ok nmx lev hK en
  · rw [if_neg hc] at hf
    refine tj_sub (lv' := [(0, .inr (.inr (a0))), (3, .inl (a3))]) [0, 3] rfl ?_
    exact (q_X2_seenValue_8 hf).2 X g K ok nmx lev hK en
def f_X2_seenValue (a0 : Nat) (a1 : Int32) (a2 : Int32) (a3 : Int32) (h : AH) : Option (Int32 × AH) := b_X2_seenValue_0  a0 a1 a2 a3 h
theorem c_X2_seenValue {a0 : Nat} {a1 : Int32} {a2 : Int32} {a3 : Int32} {h hE : AH} {v : Int32} (hf : f_X2_seenValue a0 a1 a2 a3 h = some (v, hE)) : ∀ g : GT, CM g (3) yX2_seenValue cX2_seenValue 6 (some .int) h [.inr (.inr (a0)), .inl (a1), .inl (a2), .inl (a3)] hE (some (.inl (v))) :=
  CM.ofJ (by decide) (by show _ ≤ 6; exact Nat.le_of_ble_eq_true rfl) (q_X2_seenValue_0 hf)
/-! ===== LitmusHouse$Machine.putInCell(II)V ===== -/
def b_X2_putInCell_0 (a0 : Nat) (a1 : Int32) (a2 : Int32) (h : AH) : Option (AH) :=
  (g_j h a0 2 1).bind fun x1 => (p_j h a0 2 1 ((x1 &&& (((15 : Int64) <<< (((4 : Int32) * a1).toInt64 &&& 63)) ^^^ (-1 : Int64))) ||| (a2.toInt64 <<< (((4 : Int32) * a1).toInt64 &&& 63)))).bind fun h2 => some h2
set_option maxHeartbeats 4000000 in
set_option maxRecDepth 100000 in
theorem q_X2_putInCell_0 {a0 : Nat} {a1 : Int32} {a2 : Int32} {h hE : AH} (hf : b_X2_putInCell_0 a0 a1 a2 h = some hE) : JD cX2_putInCell 3 RX2 "putInCell" none (2) 0 [(0, .inr (.inr (a0))), (1, .inl (a1)), (2, .inl (a2))] [] h hE none := by
  unfold b_X2_putInCell_0 at hf
  obtain ⟨x1, e1, hf⟩ := bnd hf
  obtain ⟨h2, e2, hf⟩ := bnd hf
  have m2 := nn_pj e2
  have hh := Option.some.inj hf
  subst hh
  have mE : hp_n h2 ≤ hp_n h2 ∧ hp_s h2 ≤ hp_s h2 := ⟨Nat.le_refl _, Nat.le_refl _⟩
  refine ⟨by omega, fun X g K ok nmx lev hK en => ?_⟩
  refine tj_aload_n ok 0 dX2_putInCell_0 rfl rfl ?_
  refine tj_aload_n ok 0 dX2_putInCell_1 rfl rfl ?_
  refine tj_getJ (k := 1) ok fcX2 (by decide) wm_145 rfl rfl dX2_putInCell_2 e1 ?_
  refine tj_ldc2 (v := 15) ok dX2_putInCell_5 wm_238 ?_
  refine tj_iconst (v := 4) ok dX2_putInCell_8 (by decide) ?_
  refine tj_iload_n ok 1 dX2_putInCell_9 rfl rfl ?_
  refine tj_imul ok dX2_putInCell_10 ?_
  refine tj_lshl ok dX2_putInCell_11 ?_
  refine tj_ldc2 (v := -1) ok dX2_putInCell_12 wm_239 ?_
  refine tj_lxor ok dX2_putInCell_15 ?_
  refine tj_land ok dX2_putInCell_16 ?_
  refine tj_iload_n ok 2 dX2_putInCell_17 rfl rfl ?_
  refine tj_i2l ok dX2_putInCell_18 ?_
  refine tj_iconst (v := 4) ok dX2_putInCell_19 (by decide) ?_
  refine tj_iload_n ok 1 dX2_putInCell_20 rfl rfl ?_
  refine tj_imul ok dX2_putInCell_21 ?_
  refine tj_lshl ok dX2_putInCell_22 ?_
  refine tj_lor ok dX2_putInCell_23 ?_
  refine tj_putJ (k := 1) ok fcX2 (by decide) wm_145 rfl (Or.inl rfl) rfl dX2_putInCell_24 e2 ?_
  exact tj_return ok en dX2_putInCell_27
def f_X2_putInCell (a0 : Nat) (a1 : Int32) (a2 : Int32) (h : AH) : Option (AH) := b_X2_putInCell_0  a0 a1 a2 h
theorem c_X2_putInCell {a0 : Nat} {a1 : Int32} {a2 : Int32} {h hE : AH} (hf : f_X2_putInCell a0 a1 a2 h = some hE) : ∀ g : GT, CM g (2) yX2_putInCell cX2_putInCell 3 none h [.inr (.inr (a0)), .inl (a1), .inl (a2)] hE none :=
  CM.ofJ (by decide) (by show _ ≤ 3; exact Nat.le_of_ble_eq_true rfl) (q_X2_putInCell_0 hf)
/-! ===== LitmusHouse$Machine.write(III)V ===== -/
def b_X2_write_82  (h : AH) : Option (AH) :=
  some h
set_option maxHeartbeats 4000000 in
set_option maxRecDepth 100000 in
theorem q_X2_write_82 {h hE : AH} (hf : b_X2_write_82  h = some hE) : JD cX2_write 4 RX2 "write" none (3) 82 [] [] h hE none := by
  unfold b_X2_write_82 at hf
  have hh := Option.some.inj hf
  subst hh
  have mE : hp_n h ≤ hp_n h ∧ hp_s h ≤ hp_s h := ⟨Nat.le_refl _, Nat.le_refl _⟩
  refine ⟨by omega, fun X g K ok nmx lev hK en => ?_⟩
  exact tj_return ok en dX2_write_82
def b_X2_write_74 (a0 : Nat) (a1 : Int32) (a2 : Int32) (h : AH) : Option (AH) :=
  (ok_v h a0 2).bind fun x1 => (f_X2_putInCell a0 a2 (a1 + (1 : Int32)) h).bind fun h2 => b_X2_write_82 h2
set_option maxHeartbeats 4000000 in
set_option maxRecDepth 100000 in
theorem q_X2_write_74 {a0 : Nat} {a1 : Int32} {a2 : Int32} {h hE : AH} (hf : b_X2_write_74 a0 a1 a2 h = some hE) : JD cX2_write 4 RX2 "write" none (3) 74 [(0, .inr (.inr (a0))), (1, .inl (a1)), (2, .inl (a2))] [] h hE none := by
  unfold b_X2_write_74 at hf
  obtain ⟨x1, e1, hf⟩ := bnd hf
  obtain ⟨h2, e2, hf⟩ := bnd hf
  have k2 := c_X2_putInCell e2
  have m2 := (k2 default_g).1
  have J := q_X2_write_82 hf
  have mE := J.1
  refine ⟨by omega, fun X g K ok nmx lev hK en => ?_⟩
  refine tj_aload_n ok 0 dX2_write_74 rfl rfl ?_
  refine tj_iload_n ok 2 dX2_write_75 rfl rfl ?_
  refine tj_iload_n ok 1 dX2_write_76 rfl rfl ?_
  refine tj_iconst (v := 1) ok dX2_write_77 (by decide) ?_
  refine tj_iadd ok dX2_write_78 ?_
  refine tj_callV (rest := ([] : List TV).map (vl g)) (as := [.inl (a2), .inl (a1 + (1 : Int32))]) ok lev (by omega) fcX2.1 (by decide) rfl (of_if e1).1 (k2 g) (CaX.of en (by omega)) kn_X2_putInCell wm_320 wm_321 wm_322 (rs_ok (Nat.le_of_ble_eq_true rfl)) rfl rfl dX2_write_79 ?_
  refine tj_sub (lv' := []) [] rfl ?_
  exact J.2 X g K ok nmx lev hK en
def b_X2_write_66 (a0 : Nat) (a1 : Int32) (a2 : Int32) (h : AH) : Option (AH) :=
  (ok_v h a0 2).bind fun x1 => (f_X2_isVolatile a0 a2 h).bind fun q2 => if q2.1 = 0 then b_X2_write_82 q2.2 else b_X2_write_74 a0 a1 a2 q2.2
set_option maxHeartbeats 4000000 in
set_option maxRecDepth 100000 in
theorem q_X2_write_66 {a0 : Nat} {a1 : Int32} {a2 : Int32} {h hE : AH} (hf : b_X2_write_66 a0 a1 a2 h = some hE) : JD cX2_write 4 RX2 "write" none (3) 66 [(0, .inr (.inr (a0))), (1, .inl (a1)), (2, .inl (a2))] [] h hE none := by
  unfold b_X2_write_66 at hf
  obtain ⟨x1, e1, hf⟩ := bnd hf
  obtain ⟨⟨x2, h2⟩, e2, hf⟩ := bnd hf
  try dsimp only at hf
  have k2 := c_X2_isVolatile e2
  have m2 := (k2 default_g).1
  have mE : hp_n h2 ≤ hp_n hE ∧ hp_s h2 ≤ hp_s hE := by
    by_cases hc : x2 = 0
    · rw [if_pos hc] at hf; exact (q_X2_write_82 hf).1
    · rw [if_neg hc] at hf; exact (q_X2_write_74 hf).1
  refine ⟨by omega, fun X g K ok nmx lev hK en => ?_⟩
  refine tj_aload_n ok 0 dX2_write_66 rfl rfl ?_
  refine tj_iload_n ok 2 dX2_write_67 rfl rfl ?_
  refine tj_callV (rest := ([] : List TV).map (vl g)) (as := [.inl (a2)]) ok lev (by omega) fcX2.1 (by decide) rfl (of_if e1).1 (k2 g) (CaX.of en (by omega)) kn_X2_isVolatile wm_295 wm_296 wm_297 (rs_ok (Nat.le_of_ble_eq_true rfl)) rfl rfl dX2_write_68 ?_
  refine tj_if_eq (tgt := 82) ok dX2_write_71 (by decide) (fun hc => ?_) (fun hc => ?_)
  · rw [if_pos hc] at hf
    refine tj_sub (lv' := []) [] rfl ?_
    exact (q_X2_write_82 hf).2 X g K ok nmx lev hK en
  · rw [if_neg hc] at hf
    exact (q_X2_write_74 hf).2 X g K ok nmx lev hK en
def b_X2_write_58 (a0 : Nat) (a1 : Int32) (a2 : Int32) (h : AH) : Option (AH) :=
  (g_i h a0 2 3).bind fun x1 => if x1 = (3 : Int32) then b_X2_write_74 a0 a1 a2 h else b_X2_write_66 a0 a1 a2 h
set_option maxHeartbeats 4000000 in
set_option maxRecDepth 100000 in
theorem q_X2_write_58 {a0 : Nat} {a1 : Int32} {a2 : Int32} {h hE : AH} (hf : b_X2_write_58 a0 a1 a2 h = some hE) : JD cX2_write 4 RX2 "write" none (3) 58 [(0, .inr (.inr (a0))), (1, .inl (a1)), (2, .inl (a2))] [] h hE none := by
  unfold b_X2_write_58 at hf
  obtain ⟨x1, e1, hf⟩ := bnd hf
  have mE : hp_n h ≤ hp_n hE ∧ hp_s h ≤ hp_s hE := by
    by_cases hc : x1 = (3 : Int32)
    · rw [if_pos hc] at hf; exact (q_X2_write_74 hf).1
    · rw [if_neg hc] at hf; exact (q_X2_write_66 hf).1
  refine ⟨by omega, fun X g K ok nmx lev hK en => ?_⟩
  refine tj_aload_n ok 0 dX2_write_58 rfl rfl ?_
  refine tj_getI (k := 3) ok fcX2 (by decide) wm_147 rfl (Or.inl rfl) dX2_write_59 e1 ?_
  refine tj_iconst (v := 3) ok dX2_write_62 (by decide) ?_
  refine tj_icmp_eq (tgt := 74) ok dX2_write_63 (by decide) (fun hc => ?_) (fun hc => ?_)
  · rw [if_pos hc] at hf
    exact (q_X2_write_74 hf).2 X g K ok nmx lev hK en
  · rw [if_neg hc] at hf
    exact (q_X2_write_66 hf).2 X g K ok nmx lev hK en
def b_X2_write_40 (a0 : Nat) (a1 : Int32) (h : AH) : Option (AH) :=
  (g_j h a0 2 0).bind fun x1 => (p_j h a0 2 0 (x1 ||| ((1 : Int64) <<< (((55 : Int32) + a1).toInt64 &&& 63)))).bind fun h2 => b_X2_write_82 h2
set_option maxHeartbeats 4000000 in
set_option maxRecDepth 100000 in
theorem q_X2_write_40 {a0 : Nat} {a1 : Int32} {h hE : AH} (hf : b_X2_write_40 a0 a1 h = some hE) : JD cX2_write 4 RX2 "write" none (3) 40 [(0, .inr (.inr (a0))), (1, .inl (a1))] [] h hE none := by
  unfold b_X2_write_40 at hf
  obtain ⟨x1, e1, hf⟩ := bnd hf
  obtain ⟨h2, e2, hf⟩ := bnd hf
  have m2 := nn_pj e2
  have J := q_X2_write_82 hf
  have mE := J.1
  refine ⟨by omega, fun X g K ok nmx lev hK en => ?_⟩
  refine tj_aload_n ok 0 dX2_write_40 rfl rfl ?_
  refine tj_dupa ok dX2_write_41 ?_
  refine tj_getJ (k := 0) ok fcX2 (by decide) wm_144 rfl rfl dX2_write_42 e1 ?_
  refine tj_lconst (v := 1) ok dX2_write_45 (by decide) ?_
  refine tj_bipush (v := 55) ok dX2_write_46 (by decide) ?_
  refine tj_iload_n ok 1 dX2_write_48 rfl rfl ?_
  refine tj_iadd ok dX2_write_49 ?_
  refine tj_lshl ok dX2_write_50 ?_
  refine tj_lor ok dX2_write_51 ?_
  refine tj_putJ (k := 0) ok fcX2 (by decide) wm_144 rfl (Or.inl rfl) rfl dX2_write_52 e2 ?_
  refine tj_goto (tgt := 82) ok dX2_write_55 (by decide) ?_
  refine tj_sub (lv' := []) [] rfl ?_
  exact J.2 X g K ok nmx lev hK en
def b_X2_write_14 (a0 : Nat) (a1 : Int32) (a2 : Int32) (a3 : Int32) (h : AH) : Option (AH) :=
  (g_j h a0 2 1).bind fun x1 => (p_j h a0 2 1 (x1 ||| (a3.toInt64 <<< (((24 : Int32) + ((4 : Int32) * a1)).toInt64 &&& 63)))).bind fun h2 => (g_i h2 a0 2 3).bind fun x3 => if x3 = (1 : Int32) then b_X2_write_40 a0 a1 h2 else b_X2_write_58 a0 a1 a2 h2
set_option maxHeartbeats 4000000 in
set_option maxRecDepth 100000 in
theorem q_X2_write_14 {a0 : Nat} {a1 : Int32} {a2 : Int32} {a3 : Int32} {h hE : AH} (hf : b_X2_write_14 a0 a1 a2 a3 h = some hE) : JD cX2_write 4 RX2 "write" none (3) 14 [(0, .inr (.inr (a0))), (1, .inl (a1)), (2, .inl (a2)), (3, .inl (a3))] [] h hE none := by
  unfold b_X2_write_14 at hf
  obtain ⟨x1, e1, hf⟩ := bnd hf
  obtain ⟨h2, e2, hf⟩ := bnd hf
  have m2 := nn_pj e2
  obtain ⟨x3, e3, hf⟩ := bnd hf
  have mE : hp_n h2 ≤ hp_n hE ∧ hp_s h2 ≤ hp_s hE := by
    by_cases hc : x3 = (1 : Int32)
    · rw [if_pos hc] at hf; exact (q_X2_write_40 hf).1
    · rw [if_neg hc] at hf; exact (q_X2_write_58 hf).1
  refine ⟨by omega, fun X g K ok nmx lev hK en => ?_⟩
  refine tj_aload_n ok 0 dX2_write_14 rfl rfl ?_
  refine tj_dupa ok dX2_write_15 ?_
  refine tj_getJ (k := 1) ok fcX2 (by decide) wm_145 rfl rfl dX2_write_16 e1 ?_
  refine tj_iload_n ok 3 dX2_write_19 rfl rfl ?_
  refine tj_i2l ok dX2_write_20 ?_
  refine tj_bipush (v := 24) ok dX2_write_21 (by decide) ?_
  refine tj_iconst (v := 4) ok dX2_write_23 (by decide) ?_
  refine tj_iload_n ok 1 dX2_write_24 rfl rfl ?_
  refine tj_imul ok dX2_write_25 ?_
  refine tj_iadd ok dX2_write_26 ?_
  refine tj_lshl ok dX2_write_27 ?_
  refine tj_lor ok dX2_write_28 ?_
  refine tj_putJ (k := 1) ok fcX2 (by decide) wm_145 rfl (Or.inl rfl) rfl dX2_write_29 e2 ?_
  refine tj_aload_n ok 0 dX2_write_32 rfl rfl ?_
  refine tj_getI (k := 3) ok fcX2 (by decide) wm_147 rfl (Or.inl rfl) dX2_write_33 e3 ?_
  refine tj_iconst (v := 1) ok dX2_write_36 (by decide) ?_
  refine tj_icmp_ne (tgt := 58) ok dX2_write_37 (by decide) (fun hc => ?_) (fun hc => ?_)
  · rw [if_neg hc] at hf
    refine tj_sub (lv' := [(0, .inr (.inr (a0))), (1, .inl (a1)), (2, .inl (a2))]) [0, 1, 2] rfl ?_
    exact (q_X2_write_58 hf).2 X g K ok nmx lev hK en
  · rw [if_pos hc] at hf
    refine tj_sub (lv' := [(0, .inr (.inr (a0))), (1, .inl (a1))]) [0, 1] rfl ?_
    exact (q_X2_write_40 hf).2 X g K ok nmx lev hK en
def b_X2_write_7 (a0 : Nat) (a2 : Int32) (a3 : Int32) (h : AH) : Option (AH) :=
  (ok_v h a0 2).bind fun x1 => (f_X2_putInCell a0 a2 a3 h).bind fun h2 => some h2
set_option maxHeartbeats 4000000 in
set_option maxRecDepth 100000 in
theorem q_X2_write_7 {a0 : Nat} {a2 : Int32} {a3 : Int32} {h hE : AH} (hf : b_X2_write_7 a0 a2 a3 h = some hE) : JD cX2_write 4 RX2 "write" none (3) 7 [(0, .inr (.inr (a0))), (2, .inl (a2)), (3, .inl (a3))] [] h hE none := by
  unfold b_X2_write_7 at hf
  obtain ⟨x1, e1, hf⟩ := bnd hf
  obtain ⟨h2, e2, hf⟩ := bnd hf
  have k2 := c_X2_putInCell e2
  have m2 := (k2 default_g).1
  have hh := Option.some.inj hf
  subst hh
  have mE : hp_n h2 ≤ hp_n h2 ∧ hp_s h2 ≤ hp_s h2 := ⟨Nat.le_refl _, Nat.le_refl _⟩
  refine ⟨by omega, fun X g K ok nmx lev hK en => ?_⟩
  refine tj_aload_n ok 0 dX2_write_7 rfl rfl ?_
  refine tj_iload_n ok 1 dX2_write_8 rfl rfl ?_
  refine tj_iload_n ok 2 dX2_write_9 rfl rfl ?_
  refine tj_callV (rest := ([] : List TV).map (vl g)) (as := [.inl (a2), .inl (a3)]) ok lev (by omega) fcX2.1 (by decide) rfl (of_if e1).1 (k2 g) (CaX.of en (by omega)) kn_X2_putInCell wm_320 wm_321 wm_322 (rs_ok (Nat.le_of_ble_eq_true rfl)) rfl rfl dX2_write_10 ?_
  exact tj_return ok en dX2_write_13
def b_X2_write_0 (a0 : Nat) (a1 : Int32) (a2 : Int32) (a3 : Int32) (h : AH) : Option (AH) :=
  (g_i h a0 2 3).bind fun x1 => if x1 = 0 then b_X2_write_7 a0 a2 a3 h else b_X2_write_14 a0 a1 a2 a3 h
set_option maxHeartbeats 4000000 in
set_option maxRecDepth 100000 in
theorem q_X2_write_0 {a0 : Nat} {a1 : Int32} {a2 : Int32} {a3 : Int32} {h hE : AH} (hf : b_X2_write_0 a0 a1 a2 a3 h = some hE) : JD cX2_write 4 RX2 "write" none (3) 0 [(0, .inr (.inr (a0))), (1, .inl (a1)), (2, .inl (a2)), (3, .inl (a3))] [] h hE none := by
  unfold b_X2_write_0 at hf
  obtain ⟨x1, e1, hf⟩ := bnd hf
  have mE : hp_n h ≤ hp_n hE ∧ hp_s h ≤ hp_s hE := by
    by_cases hc : x1 = 0
    · rw [if_pos hc] at hf; exact (q_X2_write_7 hf).1
    · rw [if_neg hc] at hf; exact (q_X2_write_14 hf).1
  refine ⟨by omega, fun X g K ok nmx lev hK en => ?_⟩
  refine tj_aload_n ok 0 dX2_write_0 rfl rfl ?_
  refine tj_getI (k := 3) ok fcX2 (by decide) wm_147 rfl (Or.inl rfl) dX2_write_1 e1 ?_
  refine tj_if_ne (tgt := 14) ok dX2_write_4 (by decide) (fun hc => ?_) (fun hc => ?_)
  · rw [if_neg hc] at hf
    exact (q_X2_write_14 hf).2 X g K ok nmx lev hK en
  · rw [if_pos hc] at hf
    refine tj_sub (lv' := [(0, .inr (.inr (a0))), (2, .inl (a2)), (3, .inl (a3))]) [0, 2, 3] rfl ?_
    exact (q_X2_write_7 hf).2 X g K ok nmx lev hK en
def f_X2_write (a0 : Nat) (a1 : Int32) (a2 : Int32) (a3 : Int32) (h : AH) : Option (AH) := b_X2_write_0  a0 a1 a2 a3 h
theorem c_X2_write {a0 : Nat} {a1 : Int32} {a2 : Int32} {a3 : Int32} {h hE : AH} (hf : f_X2_write a0 a1 a2 a3 h = some hE) : ∀ g : GT, CM g (3) yX2_write cX2_write 4 none h [.inr (.inr (a0)), .inl (a1), .inl (a2), .inl (a3)] hE none :=
  CM.ofJ (by decide) (by show _ ≤ 4; exact Nat.le_of_ble_eq_true rfl) (q_X2_write_0 hf)
/-! ===== LitmusHouse$Machine.act(II)V ===== -/
def b_X2_act_263 (a0 : Nat) (a1 : Int32) (a3 : Int32) (a4 : Int32) (h : AH) : Option (AH) :=
  (g_j h a0 2 0).bind fun x1 => (p_j h a0 2 0 (x1 ||| ((1 : Int64) <<< (((47 : Int32) + a3).toInt64 &&& 63)))).bind fun h2 => (ok_v h2 a0 2).bind fun x3 => (f_X2_goOn a0 a1 (a4 + (1 : Int32)) h2).bind fun h4 => some h4
set_option maxHeartbeats 4000000 in
set_option maxRecDepth 100000 in
theorem q_X2_act_263 {a0 : Nat} {a1 : Int32} {a3 : Int32} {a4 : Int32} {h hE : AH} (hf : b_X2_act_263 a0 a1 a3 a4 h = some hE) : JD cX2_act 5 RX2 "act" none (4) 263 [(0, .inr (.inr (a0))), (1, .inl (a1)), (3, .inl (a3)), (4, .inl (a4))] [] h hE none := by
  unfold b_X2_act_263 at hf
  obtain ⟨x1, e1, hf⟩ := bnd hf
  obtain ⟨h2, e2, hf⟩ := bnd hf
  have m2 := nn_pj e2
  obtain ⟨x3, e3, hf⟩ := bnd hf
  obtain ⟨h4, e4, hf⟩ := bnd hf
  have k4 := c_X2_goOn e4
  have m4 := (k4 default_g).1
  have hh := Option.some.inj hf
  subst hh
  have mE : hp_n h4 ≤ hp_n h4 ∧ hp_s h4 ≤ hp_s h4 := ⟨Nat.le_refl _, Nat.le_refl _⟩
  refine ⟨by omega, fun X g K ok nmx lev hK en => ?_⟩
  refine tj_aload_n ok 0 dX2_act_263 rfl rfl ?_
  refine tj_dupa ok dX2_act_264 ?_
  refine tj_getJ (k := 0) ok fcX2 (by decide) wm_144 rfl rfl dX2_act_265 e1 ?_
  refine tj_lconst (v := 1) ok dX2_act_268 (by decide) ?_
  refine tj_bipush (v := 47) ok dX2_act_269 (by decide) ?_
  refine tj_iload_n ok 2 dX2_act_271 rfl rfl ?_
  refine tj_iadd ok dX2_act_272 ?_
  refine tj_lshl ok dX2_act_273 ?_
  refine tj_lor ok dX2_act_274 ?_
  refine tj_putJ (k := 0) ok fcX2 (by decide) wm_144 rfl (Or.inl rfl) rfl dX2_act_275 e2 ?_
  refine tj_aload_n ok 0 dX2_act_278 rfl rfl ?_
  refine tj_iload_n ok 1 dX2_act_279 rfl rfl ?_
  refine tj_iload ok 3 dX2_act_280 rfl ?_
  refine tj_iconst (v := 1) ok dX2_act_282 (by decide) ?_
  refine tj_iadd ok dX2_act_283 ?_
  refine tj_callV (rest := ([] : List TV).map (vl g)) (as := [.inl (a1), .inl (a4 + (1 : Int32))]) ok lev (by omega) fcX2.1 (by decide) rfl (of_if e3).1 (k4 g) (CaX.of en (by omega)) kn_X2_goOn wm_261 wm_262 wm_263 (rs_ok (Nat.le_of_ble_eq_true rfl)) rfl rfl dX2_act_284 ?_
  exact tj_return ok en dX2_act_287
def b_X2_act_100 (a0 : Nat) (a1 : Int32) (a2 : Int32) (a3 : Int32) (a4 : Int32) (h : AH) : Option (AH) :=
  (g_r h a0 2 7).bind fun x1 => (g_r h x1 0 1).bind fun x2 => (l_i h x2 a4).bind fun x3 => (g_r h a0 2 7).bind fun x4 => (g_r h x4 0 4).bind fun x5 => (l_i h x5 a4).bind fun x6 => (ok_v h a0 2).bind fun x7 => (f_X2_seenValue a0 a1 x6 a2 h).bind fun q8 => (ok_v q8.2 a0 2).bind fun x9 => (f_X2_isPublished a0 a2 q8.2).bind fun q10 => (ok_v q10.2 a0 2).bind fun x11 => (f_X2_setLocal a0 x3 q8.1 q10.1 q10.2).bind fun h12 => b_X2_act_263 a0 a1 a3 a4 h12
set_option maxHeartbeats 4000000 in
set_option maxRecDepth 100000 in
theorem q_X2_act_100 {a0 : Nat} {a1 : Int32} {a2 : Int32} {a3 : Int32} {a4 : Int32} {h hE : AH} (hf : b_X2_act_100 a0 a1 a2 a3 a4 h = some hE) : JD cX2_act 5 RX2 "act" none (4) 100 [(0, .inr (.inr (a0))), (1, .inl (a1)), (2, .inl (a2)), (3, .inl (a3)), (4, .inl (a4))] [] h hE none := by
  unfold b_X2_act_100 at hf
  obtain ⟨x1, e1, hf⟩ := bnd hf
  obtain ⟨x2, e2, hf⟩ := bnd hf
  obtain ⟨x3, e3, hf⟩ := bnd hf
  obtain ⟨x4, e4, hf⟩ := bnd hf
  obtain ⟨x5, e5, hf⟩ := bnd hf
  obtain ⟨x6, e6, hf⟩ := bnd hf
  obtain ⟨x7, e7, hf⟩ := bnd hf
  obtain ⟨⟨x8, h8⟩, e8, hf⟩ := bnd hf
  try dsimp only at hf
  have k8 := c_X2_seenValue e8
  have m8 := (k8 default_g).1
  obtain ⟨x9, e9, hf⟩ := bnd hf
  obtain ⟨⟨x10, h10⟩, e10, hf⟩ := bnd hf
  try dsimp only at hf
  have k10 := c_X2_isPublished e10
  have m10 := (k10 default_g).1
  obtain ⟨x11, e11, hf⟩ := bnd hf
  obtain ⟨h12, e12, hf⟩ := bnd hf
  have k12 := c_X2_setLocal e12
  have m12 := (k12 default_g).1
  have J := q_X2_act_263 hf
  have mE := J.1
  refine ⟨by omega, fun X g K ok nmx lev hK en => ?_⟩
  refine tj_aload_n ok 0 dX2_act_100 rfl rfl ?_
  refine tj_aload_n ok 0 dX2_act_101 rfl rfl ?_
  refine tj_getR (k := 7) ok fcX2 (by decide) wm_154 rfl (Or.inl ⟨_, rfl⟩) dX2_act_102 e1 ?_
  refine tj_getR (k := 1) ok fcX0 (by decide) wm_246 rfl (Or.inr ⟨_, rfl⟩) dX2_act_105 e2 ?_
  refine tj_iload ok 4 dX2_act_108 rfl ?_
  refine tj_iaload ok dX2_act_110 e3 ?_
  refine tj_aload_n ok 0 dX2_act_111 rfl rfl ?_
  refine tj_iload_n ok 1 dX2_act_112 rfl rfl ?_
  refine tj_aload_n ok 0 dX2_act_113 rfl rfl ?_
  refine tj_getR (k := 7) ok fcX2 (by decide) wm_154 rfl (Or.inl ⟨_, rfl⟩) dX2_act_114 e4 ?_
  refine tj_getR (k := 4) ok fcX0 (by decide) wm_301 rfl (Or.inr ⟨_, rfl⟩) dX2_act_117 e5 ?_
  refine tj_iload ok 4 dX2_act_120 rfl ?_
  refine tj_iaload ok dX2_act_122 e6 ?_
  refine tj_iload_n ok 2 dX2_act_123 rfl rfl ?_
  refine tj_callV (rest := ([.inl (x3), .inr (.inr (a0))] : List TV).map (vl g)) (as := [.inl (a1), .inl (x6), .inl (a2)]) ok lev (by omega) fcX2.1 (by decide) rfl (of_if e7).1 (k8 g) (CaX.of en (by omega)) kn_X2_seenValue wm_324 wm_325 wm_326 (rs_ok (Nat.le_of_ble_eq_true rfl)) rfl rfl dX2_act_124 ?_
  refine tj_aload_n ok 0 dX2_act_127 rfl rfl ?_
  refine tj_iload_n ok 2 dX2_act_128 rfl rfl ?_
  refine tj_callV (rest := ([.inl (x8), .inl (x3), .inr (.inr (a0))] : List TV).map (vl g)) (as := [.inl (a2)]) ok lev (by omega) fcX2.1 (by decide) rfl (of_if e9).1 (k10 g) (CaX.of en (by omega)) kn_X2_isPublished wm_327 wm_328 wm_329 (rs_ok (Nat.le_of_ble_eq_true rfl)) rfl rfl dX2_act_129 ?_
  refine tj_callV (rest := ([] : List TV).map (vl g)) (as := [.inl (x3), .inl (x8), .inl (x10)]) ok lev (by omega) fcX2.1 (by decide) rfl (of_if e11).1 (k12 g) (CaX.of en (by omega)) kn_X2_setLocal wm_250 wm_251 wm_252 (rs_ok (Nat.le_of_ble_eq_true rfl)) rfl rfl dX2_act_132 ?_
  refine tj_goto (tgt := 263) ok dX2_act_135 (by decide) ?_
  refine tj_sub (lv' := [(0, .inr (.inr (a0))), (1, .inl (a1)), (3, .inl (a3)), (4, .inl (a4))]) [0, 1, 3, 4] rfl ?_
  exact J.2 X g K ok nmx lev hK en
def b_X2_act_172 (a0 : Nat) (a1 : Int32) (a3 : Int32) (a4 : Int32) (h : AH) : Option (AH) :=
  (g_r h a0 2 7).bind fun x1 => (g_r h x1 0 4).bind fun x2 => (l_i h x2 a4).bind fun x3 => (ok_v h a0 2).bind fun x4 => (f_X2_sumAt a0 a4 h).bind fun q5 => (ok_v q5.2 a0 2).bind fun x6 => (f_X2_write a0 a3 x3 q5.1 q5.2).bind fun h7 => b_X2_act_263 a0 a1 a3 a4 h7
set_option maxHeartbeats 4000000 in
set_option maxRecDepth 100000 in
theorem q_X2_act_172 {a0 : Nat} {a1 : Int32} {a3 : Int32} {a4 : Int32} {h hE : AH} (hf : b_X2_act_172 a0 a1 a3 a4 h = some hE) : JD cX2_act 5 RX2 "act" none (4) 172 [(0, .inr (.inr (a0))), (1, .inl (a1)), (3, .inl (a3)), (4, .inl (a4))] [] h hE none := by
  unfold b_X2_act_172 at hf
  obtain ⟨x1, e1, hf⟩ := bnd hf
  obtain ⟨x2, e2, hf⟩ := bnd hf
  obtain ⟨x3, e3, hf⟩ := bnd hf
  obtain ⟨x4, e4, hf⟩ := bnd hf
  obtain ⟨⟨x5, h5⟩, e5, hf⟩ := bnd hf
  try dsimp only at hf
  have k5 := c_X2_sumAt e5
  have m5 := (k5 default_g).1
  obtain ⟨x6, e6, hf⟩ := bnd hf
  obtain ⟨h7, e7, hf⟩ := bnd hf
  have k7 := c_X2_write e7
  have m7 := (k7 default_g).1
  have J := q_X2_act_263 hf
  have mE := J.1
  refine ⟨by omega, fun X g K ok nmx lev hK en => ?_⟩
  refine tj_aload_n ok 0 dX2_act_172 rfl rfl ?_
  refine tj_iload_n ok 2 dX2_act_173 rfl rfl ?_
  refine tj_aload_n ok 0 dX2_act_174 rfl rfl ?_
  refine tj_getR (k := 7) ok fcX2 (by decide) wm_154 rfl (Or.inl ⟨_, rfl⟩) dX2_act_175 e1 ?_
  refine tj_getR (k := 4) ok fcX0 (by decide) wm_301 rfl (Or.inr ⟨_, rfl⟩) dX2_act_178 e2 ?_
  refine tj_iload ok 3 dX2_act_181 rfl ?_
  refine tj_iaload ok dX2_act_183 e3 ?_
  refine tj_aload_n ok 0 dX2_act_184 rfl rfl ?_
  refine tj_iload ok 3 dX2_act_185 rfl ?_
  refine tj_callV (rest := ([.inl (x3), .inl (a3), .inr (.inr (a0))] : List TV).map (vl g)) (as := [.inl (a4)]) ok lev (by omega) fcX2.1 (by decide) rfl (of_if e4).1 (k5 g) (CaX.of en (by omega)) kn_X2_sumAt wm_247 wm_248 wm_249 (rs_ok (Nat.le_of_ble_eq_true rfl)) rfl rfl dX2_act_187 ?_
  refine tj_callV (rest := ([] : List TV).map (vl g)) (as := [.inl (a3), .inl (x3), .inl (x5)]) ok lev (by omega) fcX2.1 (by decide) rfl (of_if e6).1 (k7 g) (CaX.of en (by omega)) kn_X2_write wm_330 wm_331 wm_332 (rs_ok (Nat.le_of_ble_eq_true rfl)) rfl rfl dX2_act_190 ?_
  refine tj_goto (tgt := 263) ok dX2_act_193 (by decide) ?_
  exact J.2 X g K ok nmx lev hK en
def b_X2_act_138 (a0 : Nat) (a1 : Int32) (a2 : Int32) (a3 : Int32) (a4 : Int32) (h : AH) : Option (AH) :=
  (g_r h a0 2 7).bind fun x1 => (g_r h x1 0 1).bind fun x2 => (l_i h x2 a4).bind fun x3 => (g_r h a0 2 7).bind fun x4 => (g_r h x4 0 4).bind fun x5 => (l_i h x5 a4).bind fun x6 => (ok_v h a0 2).bind fun x7 => (f_X2_seenValue a0 a1 x6 a2 h).bind fun q8 => (ok_v q8.2 a0 2).bind fun x9 => (f_X2_setLocal a0 x3 q8.1 (0 : Int32) q8.2).bind fun h10 => b_X2_act_263 a0 a1 a3 a4 h10
set_option maxHeartbeats 4000000 in
set_option maxRecDepth 100000 in
theorem q_X2_act_138 {a0 : Nat} {a1 : Int32} {a2 : Int32} {a3 : Int32} {a4 : Int32} {h hE : AH} (hf : b_X2_act_138 a0 a1 a2 a3 a4 h = some hE) : JD cX2_act 5 RX2 "act" none (4) 138 [(0, .inr (.inr (a0))), (1, .inl (a1)), (2, .inl (a2)), (3, .inl (a3)), (4, .inl (a4))] [] h hE none := by
  unfold b_X2_act_138 at hf
  obtain ⟨x1, e1, hf⟩ := bnd hf
  obtain ⟨x2, e2, hf⟩ := bnd hf
  obtain ⟨x3, e3, hf⟩ := bnd hf
  obtain ⟨x4, e4, hf⟩ := bnd hf
  obtain ⟨x5, e5, hf⟩ := bnd hf
  obtain ⟨x6, e6, hf⟩ := bnd hf
  obtain ⟨x7, e7, hf⟩ := bnd hf
  obtain ⟨⟨x8, h8⟩, e8, hf⟩ := bnd hf
  try dsimp only at hf
  have k8 := c_X2_seenValue e8
  have m8 := (k8 default_g).1
  obtain ⟨x9, e9, hf⟩ := bnd hf
  obtain ⟨h10, e10, hf⟩ := bnd hf
  have k10 := c_X2_setLocal e10
  have m10 := (k10 default_g).1
  have J := q_X2_act_263 hf
  have mE := J.1
  refine ⟨by omega, fun X g K ok nmx lev hK en => ?_⟩
  refine tj_aload_n ok 0 dX2_act_138 rfl rfl ?_
  refine tj_aload_n ok 0 dX2_act_139 rfl rfl ?_
  refine tj_getR (k := 7) ok fcX2 (by decide) wm_154 rfl (Or.inl ⟨_, rfl⟩) dX2_act_140 e1 ?_
  refine tj_getR (k := 1) ok fcX0 (by decide) wm_246 rfl (Or.inr ⟨_, rfl⟩) dX2_act_143 e2 ?_
  refine tj_iload ok 4 dX2_act_146 rfl ?_
  refine tj_iaload ok dX2_act_148 e3 ?_
  refine tj_aload_n ok 0 dX2_act_149 rfl rfl ?_
  refine tj_iload_n ok 1 dX2_act_150 rfl rfl ?_
  refine tj_aload_n ok 0 dX2_act_151 rfl rfl ?_
  refine tj_getR (k := 7) ok fcX2 (by decide) wm_154 rfl (Or.inl ⟨_, rfl⟩) dX2_act_152 e4 ?_
  refine tj_getR (k := 4) ok fcX0 (by decide) wm_301 rfl (Or.inr ⟨_, rfl⟩) dX2_act_155 e5 ?_
  refine tj_iload ok 4 dX2_act_158 rfl ?_
  refine tj_iaload ok dX2_act_160 e6 ?_
  refine tj_iload_n ok 2 dX2_act_161 rfl rfl ?_
  refine tj_callV (rest := ([.inl (x3), .inr (.inr (a0))] : List TV).map (vl g)) (as := [.inl (a1), .inl (x6), .inl (a2)]) ok lev (by omega) fcX2.1 (by decide) rfl (of_if e7).1 (k8 g) (CaX.of en (by omega)) kn_X2_seenValue wm_324 wm_325 wm_326 (rs_ok (Nat.le_of_ble_eq_true rfl)) rfl rfl dX2_act_162 ?_
  refine tj_iconst (v := 0) ok dX2_act_165 (by decide) ?_
  refine tj_callV (rest := ([] : List TV).map (vl g)) (as := [.inl (x3), .inl (x8), .inl ((0 : Int32))]) ok lev (by omega) fcX2.1 (by decide) rfl (of_if e9).1 (k10 g) (CaX.of en (by omega)) kn_X2_setLocal wm_250 wm_251 wm_252 (rs_ok (Nat.le_of_ble_eq_true rfl)) rfl rfl dX2_act_166 ?_
  refine tj_goto (tgt := 263) ok dX2_act_169 (by decide) ?_
  refine tj_sub (lv' := [(0, .inr (.inr (a0))), (1, .inl (a1)), (3, .inl (a3)), (4, .inl (a4))]) [0, 1, 3, 4] rfl ?_
  exact J.2 X g K ok nmx lev hK en
def b_X2_act_196 (a0 : Nat) (a1 : Int32) (a3 : Int32) (a4 : Int32) (h : AH) : Option (AH) :=
  (g_j h a0 2 0).bind fun x1 => (g_r h a0 2 7).bind fun x2 => (g_r h x2 0 4).bind fun x3 => (l_i h x3 a4).bind fun x4 => (p_j h a0 2 0 (x1 ||| ((a1.toInt64 + (1 : Int64)) <<< (((36 : Int32) + ((3 : Int32) * x4)).toInt64 &&& 63)))).bind fun h5 => b_X2_act_263 a0 a1 a3 a4 h5
set_option maxHeartbeats 4000000 in
set_option maxRecDepth 100000 in
theorem q_X2_act_196 {a0 : Nat} {a1 : Int32} {a3 : Int32} {a4 : Int32} {h hE : AH} (hf : b_X2_act_196 a0 a1 a3 a4 h = some hE) : JD cX2_act 5 RX2 "act" none (4) 196 [(0, .inr (.inr (a0))), (1, .inl (a1)), (3, .inl (a3)), (4, .inl (a4))] [] h hE none := by
  unfold b_X2_act_196 at hf
  obtain ⟨x1, e1, hf⟩ := bnd hf
  obtain ⟨x2, e2, hf⟩ := bnd hf
  obtain ⟨x3, e3, hf⟩ := bnd hf
  obtain ⟨x4, e4, hf⟩ := bnd hf
  obtain ⟨h5, e5, hf⟩ := bnd hf
  have m5 := nn_pj e5
  have J := q_X2_act_263 hf
  have mE := J.1
  refine ⟨by omega, fun X g K ok nmx lev hK en => ?_⟩
  refine tj_aload_n ok 0 dX2_act_196 rfl rfl ?_
  refine tj_dupa ok dX2_act_197 ?_
  refine tj_getJ (k := 0) ok fcX2 (by decide) wm_144 rfl rfl dX2_act_198 e1 ?_
  refine tj_iload_n ok 1 dX2_act_201 rfl rfl ?_
  refine tj_i2l ok dX2_act_202 ?_
  refine tj_lconst (v := 1) ok dX2_act_203 (by decide) ?_
  refine tj_ladd ok dX2_act_204 ?_
  refine tj_bipush (v := 36) ok dX2_act_205 (by decide) ?_
  refine tj_iconst (v := 3) ok dX2_act_207 (by decide) ?_
  refine tj_aload_n ok 0 dX2_act_208 rfl rfl ?_
  refine tj_getR (k := 7) ok fcX2 (by decide) wm_154 rfl (Or.inl ⟨_, rfl⟩) dX2_act_209 e2 ?_
  refine tj_getR (k := 4) ok fcX0 (by decide) wm_301 rfl (Or.inr ⟨_, rfl⟩) dX2_act_212 e3 ?_
  refine tj_iload ok 3 dX2_act_215 rfl ?_
  refine tj_iaload ok dX2_act_217 e4 ?_
  refine tj_imul ok dX2_act_218 ?_
  refine tj_iadd ok dX2_act_219 ?_
  refine tj_lshl ok dX2_act_220 ?_
  refine tj_lor ok dX2_act_221 ?_
  refine tj_putJ (k := 0) ok fcX2 (by decide) wm_144 rfl (Or.inl rfl) rfl dX2_act_222 e5 ?_
  refine tj_goto (tgt := 263) ok dX2_act_225 (by decide) ?_
  exact J.2 X g K ok nmx lev hK en
def b_X2_act_228 (a0 : Nat) (a1 : Int32) (a3 : Int32) (a4 : Int32) (h : AH) : Option (AH) :=
  (g_j h a0 2 0).bind fun x1 => (g_r h a0 2 7).bind fun x2 => (g_r h x2 0 4).bind fun x3 => (l_i h x3 a4).bind fun x4 => (p_j h a0 2 0 (x1 &&& (((7 : Int64) <<< (((36 : Int32) + ((3 : Int32) * x4)).toInt64 &&& 63)) ^^^ (-1 : Int64)))).bind fun h5 => b_X2_act_263 a0 a1 a3 a4 h5
set_option maxHeartbeats 4000000 in
set_option maxRecDepth 100000 in
theorem q_X2_act_228 {a0 : Nat} {a1 : Int32} {a3 : Int32} {a4 : Int32} {h hE : AH} (hf : b_X2_act_228 a0 a1 a3 a4 h = some hE) : JD cX2_act 5 RX2 "act" none (4) 228 [(0, .inr (.inr (a0))), (1, .inl (a1)), (3, .inl (a3)), (4, .inl (a4))] [] h hE none := by
  unfold b_X2_act_228 at hf
  obtain ⟨x1, e1, hf⟩ := bnd hf
  obtain ⟨x2, e2, hf⟩ := bnd hf
  obtain ⟨x3, e3, hf⟩ := bnd hf
  obtain ⟨x4, e4, hf⟩ := bnd hf
  obtain ⟨h5, e5, hf⟩ := bnd hf
  have m5 := nn_pj e5
  have J := q_X2_act_263 hf
  have mE := J.1
  refine ⟨by omega, fun X g K ok nmx lev hK en => ?_⟩
  refine tj_aload_n ok 0 dX2_act_228 rfl rfl ?_
  refine tj_dupa ok dX2_act_229 ?_
  refine tj_getJ (k := 0) ok fcX2 (by decide) wm_144 rfl rfl dX2_act_230 e1 ?_
  refine tj_ldc2 (v := 7) ok dX2_act_233 wm_333 ?_
  refine tj_bipush (v := 36) ok dX2_act_236 (by decide) ?_
  refine tj_iconst (v := 3) ok dX2_act_238 (by decide) ?_
  refine tj_aload_n ok 0 dX2_act_239 rfl rfl ?_
  refine tj_getR (k := 7) ok fcX2 (by decide) wm_154 rfl (Or.inl ⟨_, rfl⟩) dX2_act_240 e2 ?_
  refine tj_getR (k := 4) ok fcX0 (by decide) wm_301 rfl (Or.inr ⟨_, rfl⟩) dX2_act_243 e3 ?_
  refine tj_iload ok 3 dX2_act_246 rfl ?_
  refine tj_iaload ok dX2_act_248 e4 ?_
  refine tj_imul ok dX2_act_249 ?_
  refine tj_iadd ok dX2_act_250 ?_
  refine tj_lshl ok dX2_act_251 ?_
  refine tj_ldc2 (v := -1) ok dX2_act_252 wm_239 ?_
  refine tj_lxor ok dX2_act_255 ?_
  refine tj_land ok dX2_act_256 ?_
  refine tj_putJ (k := 0) ok fcX2 (by decide) wm_144 rfl (Or.inl rfl) rfl dX2_act_257 e5 ?_
  refine tj_goto (tgt := 263) ok dX2_act_260 (by decide) ?_
  exact J.2 X g K ok nmx lev hK en
def b_X2_act_54 (a0 : Nat) (a1 : Int32) (a2 : Int32) (a3 : Int32) (a4 : Int32) (h : AH) : Option (AH) :=
  (g_r h a0 2 7).bind fun x1 => (g_r h x1 0 0).bind fun x2 => (l_i h x2 a4).bind fun x3 => if x3 = 0 then b_X2_act_100 a0 a1 a2 a3 a4 h else if x3 = 1 then b_X2_act_172 a0 a1 a3 a4 h else if x3 = 2 then b_X2_act_138 a0 a1 a2 a3 a4 h else if x3 = 3 then b_X2_act_196 a0 a1 a3 a4 h else if x3 = 4 then b_X2_act_228 a0 a1 a3 a4 h else b_X2_act_263 a0 a1 a3 a4 h
set_option maxHeartbeats 4000000 in
set_option maxRecDepth 100000 in
theorem q_X2_act_54 {a0 : Nat} {a1 : Int32} {a2 : Int32} {a3 : Int32} {a4 : Int32} {h hE : AH} (hf : b_X2_act_54 a0 a1 a2 a3 a4 h = some hE) : JD cX2_act 5 RX2 "act" none (4) 54 [(0, .inr (.inr (a0))), (1, .inl (a1)), (2, .inl (a2)), (3, .inl (a3)), (4, .inl (a4))] [] h hE none := by
  unfold b_X2_act_54 at hf
  obtain ⟨x1, e1, hf⟩ := bnd hf
  obtain ⟨x2, e2, hf⟩ := bnd hf
  obtain ⟨x3, e3, hf⟩ := bnd hf
  have mE : hp_n h ≤ hp_n hE ∧ hp_s h ≤ hp_s hE := by
    by_cases hc0 : x3 = 0
    · rw [if_pos hc0] at hf; exact (q_X2_act_100 hf).1
    rw [if_neg hc0] at hf
    by_cases hc1 : x3 = 1
    · rw [if_pos hc1] at hf; exact (q_X2_act_172 hf).1
    rw [if_neg hc1] at hf
    by_cases hc2 : x3 = 2
    · rw [if_pos hc2] at hf; exact (q_X2_act_138 hf).1
    rw [if_neg hc2] at hf
    by_cases hc3 : x3 = 3
    · rw [if_pos hc3] at hf; exact (q_X2_act_196 hf).1
    rw [if_neg hc3] at hf
    by_cases hc4 : x3 = 4
    · rw [if_pos hc4] at hf; exact (q_X2_act_228 hf).1
    rw [if_neg hc4] at hf
    exact (q_X2_act_263 hf).1
  refine ⟨by omega, fun X g K ok nmx lev hK en => ?_⟩
  refine tj_aload_n ok 0 dX2_act_54 rfl rfl ?_
  refine tj_getR (k := 7) ok fcX2 (by decide) wm_154 rfl (Or.inl ⟨_, rfl⟩) dX2_act_55 e1 ?_
  refine tj_getR (k := 0) ok fcX0 (by decide) wm_253 rfl (Or.inr ⟨_, rfl⟩) dX2_act_58 e2 ?_
  refine tj_iload ok 4 dX2_act_61 rfl ?_
  refine tj_iaload ok dX2_act_63 e3 ?_
  by_cases hc0 : x3 = 0
  · rw [if_pos hc0] at hf
    have hx : (x3).toInt = 0 := by rw [hc0]; decide
    refine tj_tabIn (off := 36) (tgt := 100) ok dX2_act_64 (by rw [hx]; decide) (by rw [hx]; decide) (by rw [hx]; decide) (by decide) ?_
    exact (q_X2_act_100 hf).2 X g K ok nmx lev hK en
  rw [if_neg hc0] at hf
  have hn0 := tn_i (n := 0) (by decide) hc0
  have hp0 := tn_j hn0
  by_cases hc1 : x3 = 1
  · rw [if_pos hc1] at hf
    have hx : (x3).toInt = 1 := by rw [hc1]; decide
    refine tj_tabIn (off := 108) (tgt := 172) ok dX2_act_64 (by rw [hx]; decide) (by rw [hx]; decide) (by rw [hx]; decide) (by decide) ?_
    refine tj_sub (lv' := [(0, .inr (.inr (a0))), (1, .inl (a1)), (3, .inl (a3)), (4, .inl (a4))]) [0, 1, 3, 4] rfl ?_
    exact (q_X2_act_172 hf).2 X g K ok nmx lev hK en
  rw [if_neg hc1] at hf
  have hn1 := tn_i (n := 1) (by decide) hc1
  have hp1 := tn_j hn1
  by_cases hc2 : x3 = 2
  · rw [if_pos hc2] at hf
    have hx : (x3).toInt = 2 := by rw [hc2]; decide
    refine tj_tabIn (off := 74) (tgt := 138) ok dX2_act_64 (by rw [hx]; decide) (by rw [hx]; decide) (by rw [hx]; decide) (by decide) ?_
    exact (q_X2_act_138 hf).2 X g K ok nmx lev hK en
  rw [if_neg hc2] at hf
  have hn2 := tn_i (n := 2) (by decide) hc2
  have hp2 := tn_j hn2
  by_cases hc3 : x3 = 3
  · rw [if_pos hc3] at hf
    have hx : (x3).toInt = 3 := by rw [hc3]; decide
    refine tj_tabIn (off := 132) (tgt := 196) ok dX2_act_64 (by rw [hx]; decide) (by rw [hx]; decide) (by rw [hx]; decide) (by decide) ?_
    refine tj_sub (lv' := [(0, .inr (.inr (a0))), (1, .inl (a1)), (3, .inl (a3)), (4, .inl (a4))]) [0, 1, 3, 4] rfl ?_
    exact (q_X2_act_196 hf).2 X g K ok nmx lev hK en
  rw [if_neg hc3] at hf
  have hn3 := tn_i (n := 3) (by decide) hc3
  have hp3 := tn_j hn3
  by_cases hc4 : x3 = 4
  · rw [if_pos hc4] at hf
    have hx : (x3).toInt = 4 := by rw [hc4]; decide
    refine tj_tabIn (off := 164) (tgt := 228) ok dX2_act_64 (by rw [hx]; decide) (by rw [hx]; decide) (by rw [hx]; decide) (by decide) ?_
    refine tj_sub (lv' := [(0, .inr (.inr (a0))), (1, .inl (a1)), (3, .inl (a3)), (4, .inl (a4))]) [0, 1, 3, 4] rfl ?_
    exact (q_X2_act_228 hf).2 X g K ok nmx lev hK en
  rw [if_neg hc4] at hf
  have hn4 := tn_i (n := 4) (by decide) hc4
  have hp4 := tn_j hn4
  refine tj_tabOut (tgt := 263) ok dX2_act_64 (by omega) (by decide) ?_
  refine tj_sub (lv' := [(0, .inr (.inr (a0))), (1, .inl (a1)), (3, .inl (a3)), (4, .inl (a4))]) [0, 1, 3, 4] rfl ?_
  exact (q_X2_act_263 hf).2 X g K ok nmx lev hK en
def b_X2_act_31 (a0 : Nat) (a1 : Int32) (a2 : Int32) (a3 : Int32) (a4 : Int32) (h : AH) : Option (AH) :=
  (g_j h a0 2 2).bind fun x1 => (ok_v h a0 2).bind fun x2 => (f_X2_aheadOf a0 a1 a4 a2 h).bind fun q3 => (p_j q3.2 a0 2 2 (x1 ||| (q3.1.toInt64 <<< (((8 : Int32) * a3).toInt64 &&& 63)))).bind fun h4 => b_X2_act_54 a0 a1 a2 a3 a4 h4
set_option maxHeartbeats 4000000 in
set_option maxRecDepth 100000 in
theorem q_X2_act_31 {a0 : Nat} {a1 : Int32} {a2 : Int32} {a3 : Int32} {a4 : Int32} {h hE : AH} (hf : b_X2_act_31 a0 a1 a2 a3 a4 h = some hE) : JD cX2_act 5 RX2 "act" none (4) 31 [(0, .inr (.inr (a0))), (1, .inl (a1)), (2, .inl (a2)), (3, .inl (a3)), (4, .inl (a4))] [] h hE none := by
  unfold b_X2_act_31 at hf
  obtain ⟨x1, e1, hf⟩ := bnd hf
  obtain ⟨x2, e2, hf⟩ := bnd hf
  obtain ⟨⟨x3, h3⟩, e3, hf⟩ := bnd hf
  try dsimp only at hf
  have k3 := c_X2_aheadOf e3
  have m3 := (k3 default_g).1
  obtain ⟨h4, e4, hf⟩ := bnd hf
  have m4 := nn_pj e4
  have J := q_X2_act_54 hf
  have mE := J.1
  refine ⟨by omega, fun X g K ok nmx lev hK en => ?_⟩
  refine tj_aload_n ok 0 dX2_act_31 rfl rfl ?_
  refine tj_dupa ok dX2_act_32 ?_
  refine tj_getJ (k := 2) ok fcX2 (by decide) wm_146 rfl rfl dX2_act_33 e1 ?_
  refine tj_aload_n ok 0 dX2_act_36 rfl rfl ?_
  refine tj_iload_n ok 1 dX2_act_37 rfl rfl ?_
  refine tj_iload ok 4 dX2_act_38 rfl ?_
  refine tj_iload_n ok 2 dX2_act_40 rfl rfl ?_
  refine tj_callV (rest := ([.inr (.inl (x1)), .inr (.inr (a0))] : List TV).map (vl g)) (as := [.inl (a1), .inl (a4), .inl (a2)]) ok lev (by omega) fcX2.1 (by decide) rfl (of_if e2).1 (k3 g) (CaX.of en (by omega)) kn_X2_aheadOf wm_334 wm_335 wm_336 (rs_ok (Nat.le_of_ble_eq_true rfl)) rfl rfl dX2_act_41 ?_
  refine tj_i2l ok dX2_act_44 ?_
  refine tj_bipush (v := 8) ok dX2_act_45 (by decide) ?_
  refine tj_iload_n ok 3 dX2_act_47 rfl rfl ?_
  refine tj_imul ok dX2_act_48 ?_
  refine tj_lshl ok dX2_act_49 ?_
  refine tj_lor ok dX2_act_50 ?_
  refine tj_putJ (k := 2) ok fcX2 (by decide) wm_146 rfl (Or.inl rfl) rfl dX2_act_51 e4 ?_
  exact J.2 X g K ok nmx lev hK en
def b_X2_act_0 (a0 : Nat) (a1 : Int32) (a2 : Int32) (h : AH) : Option (AH) :=
  (ok_v h a0 2).bind fun x1 => (f_X2_nextOf a0 a1 h).bind fun q2 => (g_r q2.2 a0 2 7).bind fun x3 => (g_r q2.2 x3 0 8).bind fun x4 => (l_i q2.2 x4 (q2.1 &&& (7 : Int32))).bind fun x5 => (g_i q2.2 a0 2 3).bind fun x6 => if x6 < (2 : Int32) then b_X2_act_54 a0 a1 a2 (q2.1 &&& (7 : Int32)) (x5 &&& (63 : Int32)) q2.2 else b_X2_act_31 a0 a1 a2 (q2.1 &&& (7 : Int32)) (x5 &&& (63 : Int32)) q2.2
set_option maxHeartbeats 4000000 in
set_option maxRecDepth 100000 in
theorem q_X2_act_0 {a0 : Nat} {a1 : Int32} {a2 : Int32} {h hE : AH} (hf : b_X2_act_0 a0 a1 a2 h = some hE) : JD cX2_act 5 RX2 "act" none (4) 0 [(0, .inr (.inr (a0))), (1, .inl (a1)), (2, .inl (a2))] [] h hE none := by
  unfold b_X2_act_0 at hf
  obtain ⟨x1, e1, hf⟩ := bnd hf
  obtain ⟨⟨x2, h2⟩, e2, hf⟩ := bnd hf
  try dsimp only at hf
  have k2 := c_X2_nextOf e2
  have m2 := (k2 default_g).1
  obtain ⟨x3, e3, hf⟩ := bnd hf
  obtain ⟨x4, e4, hf⟩ := bnd hf
  obtain ⟨x5, e5, hf⟩ := bnd hf
  obtain ⟨x6, e6, hf⟩ := bnd hf
  have mE : hp_n h2 ≤ hp_n hE ∧ hp_s h2 ≤ hp_s hE := by
    by_cases hc : x6 < (2 : Int32)
    · rw [if_pos hc] at hf; exact (q_X2_act_54 hf).1
    · rw [if_neg hc] at hf; exact (q_X2_act_31 hf).1
  refine ⟨by omega, fun X g K ok nmx lev hK en => ?_⟩
  refine tj_aload_n ok 0 dX2_act_0 rfl rfl ?_
  refine tj_iload_n ok 1 dX2_act_1 rfl rfl ?_
  refine tj_callV (rest := ([] : List TV).map (vl g)) (as := [.inl (a1)]) ok lev (by omega) fcX2.1 (by decide) rfl (of_if e1).1 (k2 g) (CaX.of en (by omega)) kn_X2_nextOf wm_337 wm_338 wm_339 (rs_ok (Nat.le_of_ble_eq_true rfl)) rfl rfl dX2_act_2 ?_
  refine tj_bipush (v := 7) ok dX2_act_5 (by decide) ?_
  refine tj_iand ok dX2_act_7 ?_
  refine tj_istore_n (lv' := [(0, .inr (.inr (a0))), (1, .inl (a1)), (2, .inl (a2)), (3, .inl (x2 &&& (7 : Int32)))]) ok dX2_act_8 rfl (by decide) rfl ?_
  refine tj_aload_n ok 0 dX2_act_9 rfl rfl ?_
  refine tj_getR (k := 7) ok fcX2 (by decide) wm_154 rfl (Or.inl ⟨_, rfl⟩) dX2_act_10 e3 ?_
  refine tj_getR (k := 8) ok fcX0 (by decide) wm_340 rfl (Or.inr ⟨_, rfl⟩) dX2_act_13 e4 ?_
  refine tj_iload_n ok 3 dX2_act_16 rfl rfl ?_
  refine tj_iaload ok dX2_act_17 e5 ?_
  refine tj_bipush (v := 63) ok dX2_act_18 (by decide) ?_
  refine tj_iand ok dX2_act_20 ?_
  refine tj_istore (lv' := [(0, .inr (.inr (a0))), (1, .inl (a1)), (2, .inl (a2)), (3, .inl (x2 &&& (7 : Int32))), (4, .inl (x5 &&& (63 : Int32)))]) ok dX2_act_21 (by decide) rfl ?_
  refine tj_aload_n ok 0 dX2_act_23 rfl rfl ?_
  refine tj_getI (k := 3) ok fcX2 (by decide) wm_147 rfl (Or.inl rfl) dX2_act_24 e6 ?_
  refine tj_iconst (v := 2) ok dX2_act_27 (by decide) ?_
  refine tj_icmp_lt (tgt := 54) ok dX2_act_28 (by decide) (fun hc => ?_) (fun hc => ?_)
  · rw [if_pos hc] at hf
    exact (q_X2_act_54 hf).2 X g K ok nmx lev hK en
  · rw [if_neg hc] at hf
    exact (q_X2_act_31 hf).2 X g K ok nmx lev hK en
def f_X2_act (a0 : Nat) (a1 : Int32) (a2 : Int32) (h : AH) : Option (AH) := b_X2_act_0  a0 a1 a2 h
theorem c_X2_act {a0 : Nat} {a1 : Int32} {a2 : Int32} {h hE : AH} (hf : f_X2_act a0 a1 a2 h = some hE) : ∀ g : GT, CM g (4) yX2_act cX2_act 5 none h [.inr (.inr (a0)), .inl (a1), .inl (a2)] hE none :=
  CM.ofJ (by decide) (by show _ ≤ 5; exact Nat.le_of_ble_eq_true rfl) (q_X2_act_0 hf)
/-! ===== LitmusHouse$Machine.hasQueue(I)Z ===== -/
def b_X2_hasQueue_13 (s0 : Int32) (h : AH) : Option (Int32 × AH) :=
  ok_z s0 h
set_option maxHeartbeats 4000000 in
set_option maxRecDepth 100000 in
theorem q_X2_hasQueue_13 {s0 : Int32} {h hE : AH} {v : Int32} (hf : b_X2_hasQueue_13 s0 h = some (v, hE)) : JD cX2_hasQueue 2 RX2 "hasQueue" (some .boolean) (3) 13 [] [.inl (s0)] h hE (some (.inl (v))) := by
  unfold b_X2_hasQueue_13 at hf
  have mE : hp_n h ≤ hp_n hE ∧ hp_s h ≤ hp_s hE := by obtain ⟨-, q⟩ := of_if hf; cases q; exact ⟨Nat.le_refl _, Nat.le_refl _⟩
  refine ⟨by omega, fun X g K ok nmx lev hK en => ?_⟩
  exact tj_zreturn ok hf en dX2_hasQueue_13
def b_X2_hasQueue_12  (h : AH) : Option (Int32 × AH) :=
  b_X2_hasQueue_13 (0 : Int32) h
set_option maxHeartbeats 4000000 in
set_option maxRecDepth 100000 in
theorem q_X2_hasQueue_12 {h hE : AH} {v : Int32} (hf : b_X2_hasQueue_12  h = some (v, hE)) : JD cX2_hasQueue 2 RX2 "hasQueue" (some .boolean) (3) 12 [] [] h hE (some (.inl (v))) := by
  unfold b_X2_hasQueue_12 at hf
  have J := q_X2_hasQueue_13 hf
  have mE := J.1
  refine ⟨by omega, fun X g K ok nmx lev hK en => ?_⟩
  refine tj_iconst (v := 0) ok dX2_hasQueue_12 (by decide) ?_
  exact J.2 X g K ok nmx lev hK en
def b_X2_hasQueue_8  (h : AH) : Option (Int32 × AH) :=
  b_X2_hasQueue_13 (1 : Int32) h
set_option maxHeartbeats 4000000 in
set_option maxRecDepth 100000 in
theorem q_X2_hasQueue_8 {h hE : AH} {v : Int32} (hf : b_X2_hasQueue_8  h = some (v, hE)) : JD cX2_hasQueue 2 RX2 "hasQueue" (some .boolean) (3) 8 [] [] h hE (some (.inl (v))) := by
  unfold b_X2_hasQueue_8 at hf
  have J := q_X2_hasQueue_13 hf
  have mE := J.1
  refine ⟨by omega, fun X g K ok nmx lev hK en => ?_⟩
  refine tj_iconst (v := 1) ok dX2_hasQueue_8 (by decide) ?_
  refine tj_goto (tgt := 13) ok dX2_hasQueue_9 (by decide) ?_
  exact J.2 X g K ok nmx lev hK en
def b_X2_hasQueue_0 (a0 : Nat) (a1 : Int32) (h : AH) : Option (Int32 × AH) :=
  (ok_v h a0 2).bind fun x1 => (f_X2_queueOf a0 a1 h).bind fun q2 => if q2.1 = 0 then b_X2_hasQueue_12 q2.2 else b_X2_hasQueue_8 q2.2
set_option maxHeartbeats 4000000 in
set_option maxRecDepth 100000 in
theorem q_X2_hasQueue_0 {a0 : Nat} {a1 : Int32} {h hE : AH} {v : Int32} (hf : b_X2_hasQueue_0 a0 a1 h = some (v, hE)) : JD cX2_hasQueue 2 RX2 "hasQueue" (some .boolean) (3) 0 [(0, .inr (.inr (a0))), (1, .inl (a1))] [] h hE (some (.inl (v))) := by
  unfold b_X2_hasQueue_0 at hf
  obtain ⟨x1, e1, hf⟩ := bnd hf
  obtain ⟨⟨x2, h2⟩, e2, hf⟩ := bnd hf
  try dsimp only at hf
  have k2 := c_X2_queueOf e2
  have m2 := (k2 default_g).1
  have mE : hp_n h2 ≤ hp_n hE ∧ hp_s h2 ≤ hp_s hE := by
    by_cases hc : x2 = 0
    · rw [if_pos hc] at hf; exact (q_X2_hasQueue_12 hf).1
    · rw [if_neg hc] at hf; exact (q_X2_hasQueue_8 hf).1
  refine ⟨by omega, fun X g K ok nmx lev hK en => ?_⟩
  refine tj_aload_n ok 0 dX2_hasQueue_0 rfl rfl ?_
  refine tj_iload_n ok 1 dX2_hasQueue_1 rfl rfl ?_
  refine tj_callV (rest := ([] : List TV).map (vl g)) (as := [.inl (a1)]) ok lev (by omega) fcX2.1 (by decide) rfl (of_if e1).1 (k2 g) (CaX.of en (by omega)) kn_X2_queueOf wm_315 wm_316 wm_317 (rs_ok (Nat.le_of_ble_eq_true rfl)) rfl rfl dX2_hasQueue_2 ?_
  refine tj_if_eq (tgt := 12) ok dX2_hasQueue_5 (by decide) (fun hc => ?_) (fun hc => ?_)
  · rw [if_pos hc] at hf
    refine tj_sub (lv' := []) [] rfl ?_
    exact (q_X2_hasQueue_12 hf).2 X g K ok nmx lev hK en
  · rw [if_neg hc] at hf
    refine tj_sub (lv' := []) [] rfl ?_
    exact (q_X2_hasQueue_8 hf).2 X g K ok nmx lev hK en
def f_X2_hasQueue (a0 : Nat) (a1 : Int32) (h : AH) : Option (Int32 × AH) := b_X2_hasQueue_0  a0 a1 h
theorem c_X2_hasQueue {a0 : Nat} {a1 : Int32} {h hE : AH} {v : Int32} (hf : f_X2_hasQueue a0 a1 h = some (v, hE)) : ∀ g : GT, CM g (3) yX2_hasQueue cX2_hasQueue 2 (some .boolean) h [.inr (.inr (a0)), .inl (a1)] hE (some (.inl (v))) :=
  CM.ofJ (by decide) (by show _ ≤ 2; exact Nat.le_of_ble_eq_true rfl) (q_X2_hasQueue_0 hf)
/-! ===== LitmusHouse$Machine.holderOf(I)I ===== -/
def b_X2_holderOf_0 (a0 : Nat) (a1 : Int32) (h : AH) : Option (Int32 × AH) :=
  (g_j h a0 2 0).bind fun x1 => some (((us_j x1 ((36 : Int32) + ((3 : Int32) * a1))).toInt32) &&& (7 : Int32), h)
set_option maxHeartbeats 4000000 in
set_option maxRecDepth 100000 in
theorem q_X2_holderOf_0 {a0 : Nat} {a1 : Int32} {h hE : AH} {v : Int32} (hf : b_X2_holderOf_0 a0 a1 h = some (v, hE)) : JD cX2_holderOf 2 RX2 "holderOf" (some .int) (2) 0 [(0, .inr (.inr (a0))), (1, .inl (a1))] [] h hE (some (.inl (v))) := by
  unfold b_X2_holderOf_0 at hf
  obtain ⟨x1, e1, hf⟩ := bnd hf
  obtain ⟨hv, hh⟩ := Prod.mk.inj (Option.some.inj hf)
  subst hv
  subst hh
  have mE : hp_n h ≤ hp_n h ∧ hp_s h ≤ hp_s h := ⟨Nat.le_refl _, Nat.le_refl _⟩
  refine ⟨by omega, fun X g K ok nmx lev hK en => ?_⟩
  refine tj_aload_n ok 0 dX2_holderOf_0 rfl rfl ?_
  refine tj_getJ (k := 0) ok fcX2 (by decide) wm_144 rfl rfl dX2_holderOf_1 e1 ?_
  refine tj_bipush (v := 36) ok dX2_holderOf_4 (by decide) ?_
  refine tj_iconst (v := 3) ok dX2_holderOf_6 (by decide) ?_
  refine tj_iload_n ok 1 dX2_holderOf_7 rfl rfl ?_
  refine tj_imul ok dX2_holderOf_8 ?_
  refine tj_iadd ok dX2_holderOf_9 ?_
  refine tj_lushr ok dX2_holderOf_10 ?_
  refine tj_l2i ok dX2_holderOf_11 ?_
  refine tj_bipush (v := 7) ok dX2_holderOf_12 (by decide) ?_
  refine tj_iand ok dX2_holderOf_14 ?_
  exact tj_ireturn ok en dX2_holderOf_15
def f_X2_holderOf (a0 : Nat) (a1 : Int32) (h : AH) : Option (Int32 × AH) := b_X2_holderOf_0  a0 a1 h
theorem c_X2_holderOf {a0 : Nat} {a1 : Int32} {h hE : AH} {v : Int32} (hf : f_X2_holderOf a0 a1 h = some (v, hE)) : ∀ g : GT, CM g (2) yX2_holderOf cX2_holderOf 2 (some .int) h [.inr (.inr (a0)), .inl (a1)] hE (some (.inl (v))) :=
  CM.ofJ (by decide) (by show _ ≤ 2; exact Nat.le_of_ble_eq_true rfl) (q_X2_holderOf_0 hf)
/-! ===== LitmusHouse$Machine.canAct(I)Z ===== -/
def b_X2_canAct_109 (s0 : Int32) (h : AH) : Option (Int32 × AH) :=
  ok_z s0 h
set_option maxHeartbeats 4000000 in
set_option maxRecDepth 100000 in
theorem q_X2_canAct_109 {s0 : Int32} {h hE : AH} {v : Int32} (hf : b_X2_canAct_109 s0 h = some (v, hE)) : JD cX2_canAct 4 RX2 "canAct" (some .boolean) (4) 109 [] [.inl (s0)] h hE (some (.inl (v))) := by
  unfold b_X2_canAct_109 at hf
  have mE : hp_n h ≤ hp_n hE ∧ hp_s h ≤ hp_s hE := by obtain ⟨-, q⟩ := of_if hf; cases q; exact ⟨Nat.le_refl _, Nat.le_refl _⟩
  refine ⟨by omega, fun X g K ok nmx lev hK en => ?_⟩
  exact tj_zreturn ok hf en dX2_canAct_109
def b_X2_canAct_104  (h : AH) : Option (Int32 × AH) :=
  b_X2_canAct_109 (1 : Int32) h
set_option maxHeartbeats 4000000 in
set_option maxRecDepth 100000 in
theorem q_X2_canAct_104 {h hE : AH} {v : Int32} (hf : b_X2_canAct_104  h = some (v, hE)) : JD cX2_canAct 4 RX2 "canAct" (some .boolean) (4) 104 [] [] h hE (some (.inl (v))) := by
  unfold b_X2_canAct_104 at hf
  have J := q_X2_canAct_109 hf
  have mE := J.1
  refine ⟨by omega, fun X g K ok nmx lev hK en => ?_⟩
  refine tj_iconst (v := 1) ok dX2_canAct_104 (by decide) ?_
  refine tj_goto (tgt := 109) ok dX2_canAct_105 (by decide) ?_
  exact J.2 X g K ok nmx lev hK en
def b_X2_canAct_108  (h : AH) : Option (Int32 × AH) :=
  b_X2_canAct_109 (0 : Int32) h
set_option maxHeartbeats 4000000 in
set_option maxRecDepth 100000 in
theorem q_X2_canAct_108 {h hE : AH} {v : Int32} (hf : b_X2_canAct_108  h = some (v, hE)) : JD cX2_canAct 4 RX2 "canAct" (some .boolean) (4) 108 [] [] h hE (some (.inl (v))) := by
  unfold b_X2_canAct_108 at hf
  have J := q_X2_canAct_109 hf
  have mE := J.1
  refine ⟨by omega, fun X g K ok nmx lev hK en => ?_⟩
  refine tj_iconst (v := 0) ok dX2_canAct_108 (by decide) ?_
  exact J.2 X g K ok nmx lev hK en
def b_X2_canAct_96 (a0 : Nat) (a1 : Int32) (h : AH) : Option (Int32 × AH) :=
  (ok_v h a0 2).bind fun x1 => (f_X2_hasQueue a0 a1 h).bind fun q2 => if q2.1 = 0 then b_X2_canAct_104 q2.2 else b_X2_canAct_108 q2.2
set_option maxHeartbeats 4000000 in
set_option maxRecDepth 100000 in
theorem q_X2_canAct_96 {a0 : Nat} {a1 : Int32} {h hE : AH} {v : Int32} (hf : b_X2_canAct_96 a0 a1 h = some (v, hE)) : JD cX2_canAct 4 RX2 "canAct" (some .boolean) (4) 96 [(0, .inr (.inr (a0))), (1, .inl (a1))] [] h hE (some (.inl (v))) := by
  unfold b_X2_canAct_96 at hf
  obtain ⟨x1, e1, hf⟩ := bnd hf
  obtain ⟨⟨x2, h2⟩, e2, hf⟩ := bnd hf
  try dsimp only at hf
  have k2 := c_X2_hasQueue e2
  have m2 := (k2 default_g).1
  have mE : hp_n h2 ≤ hp_n hE ∧ hp_s h2 ≤ hp_s hE := by
    by_cases hc : x2 = 0
    · rw [if_pos hc] at hf; exact (q_X2_canAct_104 hf).1
    · rw [if_neg hc] at hf; exact (q_X2_canAct_108 hf).1
  refine ⟨by omega, fun X g K ok nmx lev hK en => ?_⟩
  refine tj_aload_n ok 0 dX2_canAct_96 rfl rfl ?_
  refine tj_iload_n ok 1 dX2_canAct_97 rfl rfl ?_
  refine tj_callV (rest := ([] : List TV).map (vl g)) (as := [.inl (a1)]) ok lev (by omega) fcX2.1 (by decide) rfl (of_if e1).1 (k2 g) (CaX.of en (by omega)) kn_X2_hasQueue wm_344 wm_345 wm_346 (rs_ok (Nat.le_of_ble_eq_true rfl)) rfl rfl dX2_canAct_98 ?_
  refine tj_if_ne (tgt := 108) ok dX2_canAct_101 (by decide) (fun hc => ?_) (fun hc => ?_)
  · rw [if_neg hc] at hf
    refine tj_sub (lv' := []) [] rfl ?_
    exact (q_X2_canAct_108 hf).2 X g K ok nmx lev hK en
  · rw [if_pos hc] at hf
    refine tj_sub (lv' := []) [] rfl ?_
    exact (q_X2_canAct_104 hf).2 X g K ok nmx lev hK en
def b_X2_canAct_80 (a0 : Nat) (a1 : Int32) (a3 : Int32) (h : AH) : Option (Int32 × AH) :=
  (g_r h a0 2 7).bind fun x1 => (g_r h x1 0 4).bind fun x2 => (l_i h x2 a3).bind fun x3 => (ok_v h a0 2).bind fun x4 => (f_X2_isVolatile a0 x3 h).bind fun q5 => if q5.1 = 0 then b_X2_canAct_104 q5.2 else b_X2_canAct_96 a0 a1 q5.2
set_option maxHeartbeats 4000000 in
set_option maxRecDepth 100000 in
theorem q_X2_canAct_80 {a0 : Nat} {a1 : Int32} {a3 : Int32} {h hE : AH} {v : Int32} (hf : b_X2_canAct_80 a0 a1 a3 h = some (v, hE)) : JD cX2_canAct 4 RX2 "canAct" (some .boolean) (4) 80 [(0, .inr (.inr (a0))), (1, .inl (a1)), (3, .inl (a3))] [] h hE (some (.inl (v))) := by
  unfold b_X2_canAct_80 at hf
  obtain ⟨x1, e1, hf⟩ := bnd hf
  obtain ⟨x2, e2, hf⟩ := bnd hf
  obtain ⟨x3, e3, hf⟩ := bnd hf
  obtain ⟨x4, e4, hf⟩ := bnd hf
  obtain ⟨⟨x5, h5⟩, e5, hf⟩ := bnd hf
  try dsimp only at hf
  have k5 := c_X2_isVolatile e5
  have m5 := (k5 default_g).1
  have mE : hp_n h5 ≤ hp_n hE ∧ hp_s h5 ≤ hp_s hE := by
    by_cases hc : x5 = 0
    · rw [if_pos hc] at hf; exact (q_X2_canAct_104 hf).1
    · rw [if_neg hc] at hf; exact (q_X2_canAct_96 hf).1
  refine ⟨by omega, fun X g K ok nmx lev hK en => ?_⟩
  refine tj_aload_n ok 0 dX2_canAct_80 rfl rfl ?_
  refine tj_aload_n ok 0 dX2_canAct_81 rfl rfl ?_
  refine tj_getR (k := 7) ok fcX2 (by decide) wm_154 rfl (Or.inl ⟨_, rfl⟩) dX2_canAct_82 e1 ?_
  refine tj_getR (k := 4) ok fcX0 (by decide) wm_301 rfl (Or.inr ⟨_, rfl⟩) dX2_canAct_85 e2 ?_
  refine tj_iload_n ok 2 dX2_canAct_88 rfl rfl ?_
  refine tj_iaload ok dX2_canAct_89 e3 ?_
  refine tj_callV (rest := ([] : List TV).map (vl g)) (as := [.inl (x3)]) ok lev (by omega) fcX2.1 (by decide) rfl (of_if e4).1 (k5 g) (CaX.of en (by omega)) kn_X2_isVolatile wm_295 wm_296 wm_297 (rs_ok (Nat.le_of_ble_eq_true rfl)) rfl rfl dX2_canAct_90 ?_
  refine tj_if_eq (tgt := 104) ok dX2_canAct_93 (by decide) (fun hc => ?_) (fun hc => ?_)
  · rw [if_pos hc] at hf
    refine tj_sub (lv' := []) [] rfl ?_
    exact (q_X2_canAct_104 hf).2 X g K ok nmx lev hK en
  · rw [if_neg hc] at hf
    refine tj_sub (lv' := [(0, .inr (.inr (a0))), (1, .inl (a1))]) [0, 1] rfl ?_
    exact (q_X2_canAct_96 hf).2 X g K ok nmx lev hK en
def b_X2_canAct_176  (h : AH) : Option (Int32 × AH) :=
  ok_z (1 : Int32) h
set_option maxHeartbeats 4000000 in
set_option maxRecDepth 100000 in
theorem q_X2_canAct_176 {h hE : AH} {v : Int32} (hf : b_X2_canAct_176  h = some (v, hE)) : JD cX2_canAct 4 RX2 "canAct" (some .boolean) (4) 176 [] [] h hE (some (.inl (v))) := by
  unfold b_X2_canAct_176 at hf
  have mE : hp_n h ≤ hp_n hE ∧ hp_s h ≤ hp_s hE := by obtain ⟨-, q⟩ := of_if hf; cases q; exact ⟨Nat.le_refl _, Nat.le_refl _⟩
  refine ⟨by omega, fun X g K ok nmx lev hK en => ?_⟩
  refine tj_iconst (v := 1) ok dX2_canAct_176 (by decide) ?_
  exact tj_zreturn ok hf en dX2_canAct_177
def b_X2_canAct_131 (s0 : Int32) (h : AH) : Option (Int32 × AH) :=
  ok_z s0 h
set_option maxHeartbeats 4000000 in
set_option maxRecDepth 100000 in
theorem q_X2_canAct_131 {s0 : Int32} {h hE : AH} {v : Int32} (hf : b_X2_canAct_131 s0 h = some (v, hE)) : JD cX2_canAct 4 RX2 "canAct" (some .boolean) (4) 131 [] [.inl (s0)] h hE (some (.inl (v))) := by
  unfold b_X2_canAct_131 at hf
  have mE : hp_n h ≤ hp_n hE ∧ hp_s h ≤ hp_s hE := by obtain ⟨-, q⟩ := of_if hf; cases q; exact ⟨Nat.le_refl _, Nat.le_refl _⟩
  refine ⟨by omega, fun X g K ok nmx lev hK en => ?_⟩
  exact tj_zreturn ok hf en dX2_canAct_131
def b_X2_canAct_130  (h : AH) : Option (Int32 × AH) :=
  b_X2_canAct_131 (0 : Int32) h
set_option maxHeartbeats 4000000 in
set_option maxRecDepth 100000 in
theorem q_X2_canAct_130 {h hE : AH} {v : Int32} (hf : b_X2_canAct_130  h = some (v, hE)) : JD cX2_canAct 4 RX2 "canAct" (some .boolean) (4) 130 [] [] h hE (some (.inl (v))) := by
  unfold b_X2_canAct_130 at hf
  have J := q_X2_canAct_131 hf
  have mE := J.1
  refine ⟨by omega, fun X g K ok nmx lev hK en => ?_⟩
  refine tj_iconst (v := 0) ok dX2_canAct_130 (by decide) ?_
  exact J.2 X g K ok nmx lev hK en
def b_X2_canAct_126  (h : AH) : Option (Int32 × AH) :=
  b_X2_canAct_131 (1 : Int32) h
set_option maxHeartbeats 4000000 in
set_option maxRecDepth 100000 in
theorem q_X2_canAct_126 {h hE : AH} {v : Int32} (hf : b_X2_canAct_126  h = some (v, hE)) : JD cX2_canAct 4 RX2 "canAct" (some .boolean) (4) 126 [] [] h hE (some (.inl (v))) := by
  unfold b_X2_canAct_126 at hf
  have J := q_X2_canAct_131 hf
  have mE := J.1
  refine ⟨by omega, fun X g K ok nmx lev hK en => ?_⟩
  refine tj_iconst (v := 1) ok dX2_canAct_126 (by decide) ?_
  refine tj_goto (tgt := 131) ok dX2_canAct_127 (by decide) ?_
  exact J.2 X g K ok nmx lev hK en
def b_X2_canAct_110 (a0 : Nat) (a3 : Int32) (h : AH) : Option (Int32 × AH) :=
  (g_r h a0 2 7).bind fun x1 => (g_r h x1 0 2).bind fun x2 => (l_i h x2 a3).bind fun x3 => (ok_v h a0 2).bind fun x4 => (f_X2_valueOf a0 x3 h).bind fun q5 => if q5.1 = 0 then b_X2_canAct_130 q5.2 else b_X2_canAct_126 q5.2
set_option maxHeartbeats 4000000 in
set_option maxRecDepth 100000 in
theorem q_X2_canAct_110 {a0 : Nat} {a3 : Int32} {h hE : AH} {v : Int32} (hf : b_X2_canAct_110 a0 a3 h = some (v, hE)) : JD cX2_canAct 4 RX2 "canAct" (some .boolean) (4) 110 [(0, .inr (.inr (a0))), (3, .inl (a3))] [] h hE (some (.inl (v))) := by
  unfold b_X2_canAct_110 at hf
  obtain ⟨x1, e1, hf⟩ := bnd hf
  obtain ⟨x2, e2, hf⟩ := bnd hf
  obtain ⟨x3, e3, hf⟩ := bnd hf
  obtain ⟨x4, e4, hf⟩ := bnd hf
  obtain ⟨⟨x5, h5⟩, e5, hf⟩ := bnd hf
  try dsimp only at hf
  have k5 := c_X2_valueOf e5
  have m5 := (k5 default_g).1
  have mE : hp_n h5 ≤ hp_n hE ∧ hp_s h5 ≤ hp_s hE := by
    by_cases hc : x5 = 0
    · rw [if_pos hc] at hf; exact (q_X2_canAct_130 hf).1
    · rw [if_neg hc] at hf; exact (q_X2_canAct_126 hf).1
  refine ⟨by omega, fun X g K ok nmx lev hK en => ?_⟩
  refine tj_aload_n ok 0 dX2_canAct_110 rfl rfl ?_
  refine tj_aload_n ok 0 dX2_canAct_111 rfl rfl ?_
  refine tj_getR (k := 7) ok fcX2 (by decide) wm_154 rfl (Or.inl ⟨_, rfl⟩) dX2_canAct_112 e1 ?_
  refine tj_getR (k := 2) ok fcX0 (by decide) wm_241 rfl (Or.inr ⟨_, rfl⟩) dX2_canAct_115 e2 ?_
  refine tj_iload_n ok 1 dX2_canAct_118 rfl rfl ?_
  refine tj_iaload ok dX2_canAct_119 e3 ?_
  refine tj_callV (rest := ([] : List TV).map (vl g)) (as := [.inl (x3)]) ok lev (by omega) fcX2.1 (by decide) rfl (of_if e4).1 (k5 g) (CaX.of en (by omega)) kn_X2_valueOf wm_254 wm_255 wm_256 (rs_ok (Nat.le_of_ble_eq_true rfl)) rfl rfl dX2_canAct_120 ?_
  refine tj_if_eq (tgt := 130) ok dX2_canAct_123 (by decide) (fun hc => ?_) (fun hc => ?_)
  · rw [if_pos hc] at hf
    refine tj_sub (lv' := []) [] rfl ?_
    exact (q_X2_canAct_130 hf).2 X g K ok nmx lev hK en
  · rw [if_neg hc] at hf
    refine tj_sub (lv' := []) [] rfl ?_
    exact (q_X2_canAct_126 hf).2 X g K ok nmx lev hK en
def b_X2_canAct_161 (s0 : Int32) (h : AH) : Option (Int32 × AH) :=
  ok_z s0 h
set_option maxHeartbeats 4000000 in
set_option maxRecDepth 100000 in
theorem q_X2_canAct_161 {s0 : Int32} {h hE : AH} {v : Int32} (hf : b_X2_canAct_161 s0 h = some (v, hE)) : JD cX2_canAct 4 RX2 "canAct" (some .boolean) (4) 161 [] [.inl (s0)] h hE (some (.inl (v))) := by
  unfold b_X2_canAct_161 at hf
  have mE : hp_n h ≤ hp_n hE ∧ hp_s h ≤ hp_s hE := by obtain ⟨-, q⟩ := of_if hf; cases q; exact ⟨Nat.le_refl _, Nat.le_refl _⟩
  refine ⟨by omega, fun X g K ok nmx lev hK en => ?_⟩
  exact tj_zreturn ok hf en dX2_canAct_161
def b_X2_canAct_160  (h : AH) : Option (Int32 × AH) :=
  b_X2_canAct_161 (0 : Int32) h
set_option maxHeartbeats 4000000 in
set_option maxRecDepth 100000 in
theorem q_X2_canAct_160 {h hE : AH} {v : Int32} (hf : b_X2_canAct_160  h = some (v, hE)) : JD cX2_canAct 4 RX2 "canAct" (some .boolean) (4) 160 [] [] h hE (some (.inl (v))) := by
  unfold b_X2_canAct_160 at hf
  have J := q_X2_canAct_161 hf
  have mE := J.1
  refine ⟨by omega, fun X g K ok nmx lev hK en => ?_⟩
  refine tj_iconst (v := 0) ok dX2_canAct_160 (by decide) ?_
  exact J.2 X g K ok nmx lev hK en
def b_X2_canAct_156  (h : AH) : Option (Int32 × AH) :=
  b_X2_canAct_161 (1 : Int32) h
set_option maxHeartbeats 4000000 in
set_option maxRecDepth 100000 in
theorem q_X2_canAct_156 {h hE : AH} {v : Int32} (hf : b_X2_canAct_156  h = some (v, hE)) : JD cX2_canAct 4 RX2 "canAct" (some .boolean) (4) 156 [] [] h hE (some (.inl (v))) := by
  unfold b_X2_canAct_156 at hf
  have J := q_X2_canAct_161 hf
  have mE := J.1
  refine ⟨by omega, fun X g K ok nmx lev hK en => ?_⟩
  refine tj_iconst (v := 1) ok dX2_canAct_156 (by decide) ?_
  refine tj_goto (tgt := 161) ok dX2_canAct_157 (by decide) ?_
  exact J.2 X g K ok nmx lev hK en
def b_X2_canAct_148 (a0 : Nat) (a1 : Int32) (h : AH) : Option (Int32 × AH) :=
  (ok_v h a0 2).bind fun x1 => (f_X2_hasQueue a0 a1 h).bind fun q2 => if q2.1 = 0 then b_X2_canAct_156 q2.2 else b_X2_canAct_160 q2.2
set_option maxHeartbeats 4000000 in
set_option maxRecDepth 100000 in
theorem q_X2_canAct_148 {a0 : Nat} {a1 : Int32} {h hE : AH} {v : Int32} (hf : b_X2_canAct_148 a0 a1 h = some (v, hE)) : JD cX2_canAct 4 RX2 "canAct" (some .boolean) (4) 148 [(0, .inr (.inr (a0))), (1, .inl (a1))] [] h hE (some (.inl (v))) := by
  unfold b_X2_canAct_148 at hf
  obtain ⟨x1, e1, hf⟩ := bnd hf
  obtain ⟨⟨x2, h2⟩, e2, hf⟩ := bnd hf
  try dsimp only at hf
  have k2 := c_X2_hasQueue e2
  have m2 := (k2 default_g).1
  have mE : hp_n h2 ≤ hp_n hE ∧ hp_s h2 ≤ hp_s hE := by
    by_cases hc : x2 = 0
    · rw [if_pos hc] at hf; exact (q_X2_canAct_156 hf).1
    · rw [if_neg hc] at hf; exact (q_X2_canAct_160 hf).1
  refine ⟨by omega, fun X g K ok nmx lev hK en => ?_⟩
  refine tj_aload_n ok 0 dX2_canAct_148 rfl rfl ?_
  refine tj_iload_n ok 1 dX2_canAct_149 rfl rfl ?_
  refine tj_callV (rest := ([] : List TV).map (vl g)) (as := [.inl (a1)]) ok lev (by omega) fcX2.1 (by decide) rfl (of_if e1).1 (k2 g) (CaX.of en (by omega)) kn_X2_hasQueue wm_344 wm_345 wm_346 (rs_ok (Nat.le_of_ble_eq_true rfl)) rfl rfl dX2_canAct_150 ?_
  refine tj_if_ne (tgt := 160) ok dX2_canAct_153 (by decide) (fun hc => ?_) (fun hc => ?_)
  · rw [if_neg hc] at hf
    refine tj_sub (lv' := []) [] rfl ?_
    exact (q_X2_canAct_160 hf).2 X g K ok nmx lev hK en
  · rw [if_pos hc] at hf
    refine tj_sub (lv' := []) [] rfl ?_
    exact (q_X2_canAct_156 hf).2 X g K ok nmx lev hK en
def b_X2_canAct_132 (a0 : Nat) (a1 : Int32) (a3 : Int32) (h : AH) : Option (Int32 × AH) :=
  (g_r h a0 2 7).bind fun x1 => (g_r h x1 0 4).bind fun x2 => (l_i h x2 a3).bind fun x3 => (ok_v h a0 2).bind fun x4 => (f_X2_holderOf a0 x3 h).bind fun q5 => if q5.1 = 0 then b_X2_canAct_148 a0 a1 q5.2 else b_X2_canAct_160 q5.2
set_option maxHeartbeats 4000000 in
set_option maxRecDepth 100000 in
theorem q_X2_canAct_132 {a0 : Nat} {a1 : Int32} {a3 : Int32} {h hE : AH} {v : Int32} (hf : b_X2_canAct_132 a0 a1 a3 h = some (v, hE)) : JD cX2_canAct 4 RX2 "canAct" (some .boolean) (4) 132 [(0, .inr (.inr (a0))), (1, .inl (a1)), (3, .inl (a3))] [] h hE (some (.inl (v))) := by
  unfold b_X2_canAct_132 at hf
  obtain ⟨x1, e1, hf⟩ := bnd hf
  obtain ⟨x2, e2, hf⟩ := bnd hf
  obtain ⟨x3, e3, hf⟩ := bnd hf
  obtain ⟨x4, e4, hf⟩ := bnd hf
  obtain ⟨⟨x5, h5⟩, e5, hf⟩ := bnd hf
  try dsimp only at hf
  have k5 := c_X2_holderOf e5
  have m5 := (k5 default_g).1
  have mE : hp_n h5 ≤ hp_n hE ∧ hp_s h5 ≤ hp_s hE := by
    by_cases hc : x5 = 0
    · rw [if_pos hc] at hf; exact (q_X2_canAct_148 hf).1
    · rw [if_neg hc] at hf; exact (q_X2_canAct_160 hf).1
  refine ⟨by omega, fun X g K ok nmx lev hK en => ?_⟩
  refine tj_aload_n ok 0 dX2_canAct_132 rfl rfl ?_
  refine tj_aload_n ok 0 dX2_canAct_133 rfl rfl ?_
  refine tj_getR (k := 7) ok fcX2 (by decide) wm_154 rfl (Or.inl ⟨_, rfl⟩) dX2_canAct_134 e1 ?_
  refine tj_getR (k := 4) ok fcX0 (by decide) wm_301 rfl (Or.inr ⟨_, rfl⟩) dX2_canAct_137 e2 ?_
  refine tj_iload_n ok 2 dX2_canAct_140 rfl rfl ?_
  refine tj_iaload ok dX2_canAct_141 e3 ?_
  refine tj_callV (rest := ([] : List TV).map (vl g)) (as := [.inl (x3)]) ok lev (by omega) fcX2.1 (by decide) rfl (of_if e4).1 (k5 g) (CaX.of en (by omega)) kn_X2_holderOf wm_347 wm_348 wm_349 (rs_ok (Nat.le_of_ble_eq_true rfl)) rfl rfl dX2_canAct_142 ?_
  refine tj_if_ne (tgt := 160) ok dX2_canAct_145 (by decide) (fun hc => ?_) (fun hc => ?_)
  · rw [if_neg hc] at hf
    refine tj_sub (lv' := []) [] rfl ?_
    exact (q_X2_canAct_160 hf).2 X g K ok nmx lev hK en
  · rw [if_pos hc] at hf
    refine tj_sub (lv' := [(0, .inr (.inr (a0))), (1, .inl (a1))]) [0, 1] rfl ?_
    exact (q_X2_canAct_148 hf).2 X g K ok nmx lev hK en
def b_X2_canAct_175 (s0 : Int32) (h : AH) : Option (Int32 × AH) :=
  ok_z s0 h
set_option maxHeartbeats 4000000 in
set_option maxRecDepth 100000 in
theorem q_X2_canAct_175 {s0 : Int32} {h hE : AH} {v : Int32} (hf : b_X2_canAct_175 s0 h = some (v, hE)) : JD cX2_canAct 4 RX2 "canAct" (some .boolean) (4) 175 [] [.inl (s0)] h hE (some (.inl (v))) := by
  unfold b_X2_canAct_175 at hf
  have mE : hp_n h ≤ hp_n hE ∧ hp_s h ≤ hp_s hE := by obtain ⟨-, q⟩ := of_if hf; cases q; exact ⟨Nat.le_refl _, Nat.le_refl _⟩
  refine ⟨by omega, fun X g K ok nmx lev hK en => ?_⟩
  exact tj_zreturn ok hf en dX2_canAct_175
def b_X2_canAct_174  (h : AH) : Option (Int32 × AH) :=
  b_X2_canAct_175 (0 : Int32) h
set_option maxHeartbeats 4000000 in
set_option maxRecDepth 100000 in
theorem q_X2_canAct_174 {h hE : AH} {v : Int32} (hf : b_X2_canAct_174  h = some (v, hE)) : JD cX2_canAct 4 RX2 "canAct" (some .boolean) (4) 174 [] [] h hE (some (.inl (v))) := by
  unfold b_X2_canAct_174 at hf
  have J := q_X2_canAct_175 hf
  have mE := J.1
  refine ⟨by omega, fun X g K ok nmx lev hK en => ?_⟩
  refine tj_iconst (v := 0) ok dX2_canAct_174 (by decide) ?_
  exact J.2 X g K ok nmx lev hK en
def b_X2_canAct_170  (h : AH) : Option (Int32 × AH) :=
  b_X2_canAct_175 (1 : Int32) h
set_option maxHeartbeats 4000000 in
set_option maxRecDepth 100000 in
theorem q_X2_canAct_170 {h hE : AH} {v : Int32} (hf : b_X2_canAct_170  h = some (v, hE)) : JD cX2_canAct 4 RX2 "canAct" (some .boolean) (4) 170 [] [] h hE (some (.inl (v))) := by
  unfold b_X2_canAct_170 at hf
  have J := q_X2_canAct_175 hf
  have mE := J.1
  refine ⟨by omega, fun X g K ok nmx lev hK en => ?_⟩
  refine tj_iconst (v := 1) ok dX2_canAct_170 (by decide) ?_
  refine tj_goto (tgt := 175) ok dX2_canAct_171 (by decide) ?_
  exact J.2 X g K ok nmx lev hK en
def b_X2_canAct_162 (a0 : Nat) (a1 : Int32) (h : AH) : Option (Int32 × AH) :=
  (ok_v h a0 2).bind fun x1 => (f_X2_hasQueue a0 a1 h).bind fun q2 => if q2.1 = 0 then b_X2_canAct_170 q2.2 else b_X2_canAct_174 q2.2
set_option maxHeartbeats 4000000 in
set_option maxRecDepth 100000 in
theorem q_X2_canAct_162 {a0 : Nat} {a1 : Int32} {h hE : AH} {v : Int32} (hf : b_X2_canAct_162 a0 a1 h = some (v, hE)) : JD cX2_canAct 4 RX2 "canAct" (some .boolean) (4) 162 [(0, .inr (.inr (a0))), (1, .inl (a1))] [] h hE (some (.inl (v))) := by
  unfold b_X2_canAct_162 at hf
  obtain ⟨x1, e1, hf⟩ := bnd hf
  obtain ⟨⟨x2, h2⟩, e2, hf⟩ := bnd hf
  try dsimp only at hf
  have k2 := c_X2_hasQueue e2
  have m2 := (k2 default_g).1
  have mE : hp_n h2 ≤ hp_n hE ∧ hp_s h2 ≤ hp_s hE := by
    by_cases hc : x2 = 0
    · rw [if_pos hc] at hf; exact (q_X2_canAct_170 hf).1
    · rw [if_neg hc] at hf; exact (q_X2_canAct_174 hf).1
  refine ⟨by omega, fun X g K ok nmx lev hK en => ?_⟩
  refine tj_aload_n ok 0 dX2_canAct_162 rfl rfl ?_
  refine tj_iload_n ok 1 dX2_canAct_163 rfl rfl ?_
  refine tj_callV (rest := ([] : List TV).map (vl g)) (as := [.inl (a1)]) ok lev (by omega) fcX2.1 (by decide) rfl (of_if e1).1 (k2 g) (CaX.of en (by omega)) kn_X2_hasQueue wm_344 wm_345 wm_346 (rs_ok (Nat.le_of_ble_eq_true rfl)) rfl rfl dX2_canAct_164 ?_
  refine tj_if_ne (tgt := 174) ok dX2_canAct_167 (by decide) (fun hc => ?_) (fun hc => ?_)
  · rw [if_neg hc] at hf
    refine tj_sub (lv' := []) [] rfl ?_
    exact (q_X2_canAct_174 hf).2 X g K ok nmx lev hK en
  · rw [if_pos hc] at hf
    refine tj_sub (lv' := []) [] rfl ?_
    exact (q_X2_canAct_170 hf).2 X g K ok nmx lev hK en
def b_X2_canAct_19 (a0 : Nat) (a1 : Int32) (a2 : Int32) (h : AH) : Option (Int32 × AH) :=
  (g_r h a0 2 7).bind fun x1 => (g_r h x1 0 8).bind fun x2 => (l_i h x2 (a2 &&& (7 : Int32))).bind fun x3 => (g_r h a0 2 7).bind fun x4 => (g_r h x4 0 0).bind fun x5 => (l_i h x5 (x3 &&& (63 : Int32))).bind fun x6 => if x6 = 0 then b_X2_canAct_80 a0 a1 (x3 &&& (63 : Int32)) h else if x6 = 1 then b_X2_canAct_176 h else if x6 = 2 then b_X2_canAct_110 a0 (x3 &&& (63 : Int32)) h else if x6 = 3 then b_X2_canAct_132 a0 a1 (x3 &&& (63 : Int32)) h else if x6 = 4 then b_X2_canAct_162 a0 a1 h else b_X2_canAct_176 h
set_option maxHeartbeats 4000000 in
set_option maxRecDepth 100000 in
theorem q_X2_canAct_19 {a0 : Nat} {a1 : Int32} {a2 : Int32} {h hE : AH} {v : Int32} (hf : b_X2_canAct_19 a0 a1 a2 h = some (v, hE)) : JD cX2_canAct 4 RX2 "canAct" (some .boolean) (4) 19 [(0, .inr (.inr (a0))), (1, .inl (a1)), (2, .inl (a2))] [] h hE (some (.inl (v))) := by
  unfold b_X2_canAct_19 at hf
  obtain ⟨x1, e1, hf⟩ := bnd hf
  obtain ⟨x2, e2, hf⟩ := bnd hf
  obtain ⟨x3, e3, hf⟩ := bnd hf
  obtain ⟨x4, e4, hf⟩ := bnd hf
  obtain ⟨x5, e5, hf⟩ := bnd hf
  obtain ⟨x6, e6, hf⟩ := bnd hf
  have mE : hp_n h ≤ hp_n hE ∧ hp_s h ≤ hp_s hE := by
    by_cases hc0 : x6 = 0
    · rw [if_pos hc0] at hf; exact (q_X2_canAct_80 hf).1
    rw [if_neg hc0] at hf
    by_cases hc1 : x6 = 1
    · rw [if_pos hc1] at hf; exact (q_X2_canAct_176 hf).1
    rw [if_neg hc1] at hf
    by_cases hc2 : x6 = 2
    · rw [if_pos hc2] at hf; exact (q_X2_canAct_110 hf).1
    rw [if_neg hc2] at hf
    by_cases hc3 : x6 = 3
    · rw [if_pos hc3] at hf; exact (q_X2_canAct_132 hf).1
    rw [if_neg hc3] at hf
    by_cases hc4 : x6 = 4
    · rw [if_pos hc4] at hf; exact (q_X2_canAct_162 hf).1
    rw [if_neg hc4] at hf
    exact (q_X2_canAct_176 hf).1
  refine ⟨by omega, fun X g K ok nmx lev hK en => ?_⟩
  refine tj_aload_n ok 0 dX2_canAct_19 rfl rfl ?_
  refine tj_getR (k := 7) ok fcX2 (by decide) wm_154 rfl (Or.inl ⟨_, rfl⟩) dX2_canAct_20 e1 ?_
  refine tj_getR (k := 8) ok fcX0 (by decide) wm_340 rfl (Or.inr ⟨_, rfl⟩) dX2_canAct_23 e2 ?_
  refine tj_iload_n ok 2 dX2_canAct_26 rfl rfl ?_
  refine tj_bipush (v := 7) ok dX2_canAct_27 (by decide) ?_
  refine tj_iand ok dX2_canAct_29 ?_
  refine tj_iaload ok dX2_canAct_30 e3 ?_
  refine tj_bipush (v := 63) ok dX2_canAct_31 (by decide) ?_
  refine tj_iand ok dX2_canAct_33 ?_
  refine tj_istore_n (lv' := [(0, .inr (.inr (a0))), (1, .inl (a1)), (2, .inl (a2)), (3, .inl (x3 &&& (63 : Int32)))]) ok dX2_canAct_34 rfl (by decide) rfl ?_
  refine tj_aload_n ok 0 dX2_canAct_35 rfl rfl ?_
  refine tj_getR (k := 7) ok fcX2 (by decide) wm_154 rfl (Or.inl ⟨_, rfl⟩) dX2_canAct_36 e4 ?_
  refine tj_getR (k := 0) ok fcX0 (by decide) wm_253 rfl (Or.inr ⟨_, rfl⟩) dX2_canAct_39 e5 ?_
  refine tj_iload_n ok 3 dX2_canAct_42 rfl rfl ?_
  refine tj_iaload ok dX2_canAct_43 e6 ?_
  by_cases hc0 : x6 = 0
  · rw [if_pos hc0] at hf
    have hx : (x6).toInt = 0 := by rw [hc0]; decide
    refine tj_tabIn (off := 36) (tgt := 80) ok dX2_canAct_44 (by rw [hx]; decide) (by rw [hx]; decide) (by rw [hx]; decide) (by decide) ?_
    refine tj_sub (lv' := [(0, .inr (.inr (a0))), (1, .inl (a1)), (3, .inl (x3 &&& (63 : Int32)))]) [0, 1, 3] rfl ?_
    exact (q_X2_canAct_80 hf).2 X g K ok nmx lev hK en
  rw [if_neg hc0] at hf
  have hn0 := tn_i (n := 0) (by decide) hc0
  have hp0 := tn_j hn0
  by_cases hc1 : x6 = 1
  · rw [if_pos hc1] at hf
    have hx : (x6).toInt = 1 := by rw [hc1]; decide
    refine tj_tabIn (off := 132) (tgt := 176) ok dX2_canAct_44 (by rw [hx]; decide) (by rw [hx]; decide) (by rw [hx]; decide) (by decide) ?_
    refine tj_sub (lv' := []) [] rfl ?_
    exact (q_X2_canAct_176 hf).2 X g K ok nmx lev hK en
  rw [if_neg hc1] at hf
  have hn1 := tn_i (n := 1) (by decide) hc1
  have hp1 := tn_j hn1
  by_cases hc2 : x6 = 2
  · rw [if_pos hc2] at hf
    have hx : (x6).toInt = 2 := by rw [hc2]; decide
    refine tj_tabIn (off := 66) (tgt := 110) ok dX2_canAct_44 (by rw [hx]; decide) (by rw [hx]; decide) (by rw [hx]; decide) (by decide) ?_
    refine tj_sub (lv' := [(0, .inr (.inr (a0))), (3, .inl (x3 &&& (63 : Int32)))]) [0, 3] rfl ?_
    exact (q_X2_canAct_110 hf).2 X g K ok nmx lev hK en
  rw [if_neg hc2] at hf
  have hn2 := tn_i (n := 2) (by decide) hc2
  have hp2 := tn_j hn2
  by_cases hc3 : x6 = 3
  · rw [if_pos hc3] at hf
    have hx : (x6).toInt = 3 := by rw [hc3]; decide
    refine tj_tabIn (off := 88) (tgt := 132) ok dX2_canAct_44 (by rw [hx]; decide) (by rw [hx]; decide) (by rw [hx]; decide) (by decide) ?_
    refine tj_sub (lv' := [(0, .inr (.inr (a0))), (1, .inl (a1)), (3, .inl (x3 &&& (63 : Int32)))]) [0, 1, 3] rfl ?_
    exact (q_X2_canAct_132 hf).2 X g K ok nmx lev hK en
  rw [if_neg hc3] at hf
  have hn3 := tn_i (n := 3) (by decide) hc3
  have hp3 := tn_j hn3
  by_cases hc4 : x6 = 4
  · rw [if_pos hc4] at hf
    have hx : (x6).toInt = 4 := by rw [hc4]; decide
    refine tj_tabIn (off := 118) (tgt := 162) ok dX2_canAct_44 (by rw [hx]; decide) (by rw [hx]; decide) (by rw [hx]; decide) (by decide) ?_
    refine tj_sub (lv' := [(0, .inr (.inr (a0))), (1, .inl (a1))]) [0, 1] rfl ?_
    exact (q_X2_canAct_162 hf).2 X g K ok nmx lev hK en
  rw [if_neg hc4] at hf
  have hn4 := tn_i (n := 4) (by decide) hc4
  have hp4 := tn_j hn4
  refine tj_tabOut (tgt := 176) ok dX2_canAct_44 (by omega) (by decide) ?_
  refine tj_sub (lv' := []) [] rfl ?_
  exact (q_X2_canAct_176 hf).2 X g K ok nmx lev hK en
def b_X2_canAct_17  (h : AH) : Option (Int32 × AH) :=
  ok_z (0 : Int32) h
set_option maxHeartbeats 4000000 in
set_option maxRecDepth 100000 in
theorem q_X2_canAct_17 {h hE : AH} {v : Int32} (hf : b_X2_canAct_17  h = some (v, hE)) : JD cX2_canAct 4 RX2 "canAct" (some .boolean) (4) 17 [] [] h hE (some (.inl (v))) := by
  unfold b_X2_canAct_17 at hf
  have mE : hp_n h ≤ hp_n hE ∧ hp_s h ≤ hp_s hE := by obtain ⟨-, q⟩ := of_if hf; cases q; exact ⟨Nat.le_refl _, Nat.le_refl _⟩
  refine ⟨by omega, fun X g K ok nmx lev hK en => ?_⟩
  refine tj_iconst (v := 0) ok dX2_canAct_17 (by decide) ?_
  exact tj_zreturn ok hf en dX2_canAct_18
def b_X2_canAct_0 (a0 : Nat) (a1 : Int32) (h : AH) : Option (Int32 × AH) :=
  (ok_v h a0 2).bind fun x1 => (f_X2_nextOf a0 a1 h).bind fun q2 => (g_r q2.2 a0 2 7).bind fun x3 => (g_i q2.2 x3 0 12).bind fun x4 => if q2.1 < x4 then b_X2_canAct_19 a0 a1 q2.1 q2.2 else b_X2_canAct_17 q2.2
set_option maxHeartbeats 4000000 in
set_option maxRecDepth 100000 in
theorem q_X2_canAct_0 {a0 : Nat} {a1 : Int32} {h hE : AH} {v : Int32} (hf : b_X2_canAct_0 a0 a1 h = some (v, hE)) : JD cX2_canAct 4 RX2 "canAct" (some .boolean) (4) 0 [(0, .inr (.inr (a0))), (1, .inl (a1))] [] h hE (some (.inl (v))) := by
  unfold b_X2_canAct_0 at hf
  obtain ⟨x1, e1, hf⟩ := bnd hf
  obtain ⟨⟨x2, h2⟩, e2, hf⟩ := bnd hf
  try dsimp only at hf
  have k2 := c_X2_nextOf e2
  have m2 := (k2 default_g).1
  obtain ⟨x3, e3, hf⟩ := bnd hf
  obtain ⟨x4, e4, hf⟩ := bnd hf
  have mE : hp_n h2 ≤ hp_n hE ∧ hp_s h2 ≤ hp_s hE := by
    by_cases hc : x2 < x4
    · rw [if_pos hc] at hf; exact (q_X2_canAct_19 hf).1
    · rw [if_neg hc] at hf; exact (q_X2_canAct_17 hf).1
  refine ⟨by omega, fun X g K ok nmx lev hK en => ?_⟩
  refine tj_aload_n ok 0 dX2_canAct_0 rfl rfl ?_
  refine tj_iload_n ok 1 dX2_canAct_1 rfl rfl ?_
  refine tj_callV (rest := ([] : List TV).map (vl g)) (as := [.inl (a1)]) ok lev (by omega) fcX2.1 (by decide) rfl (of_if e1).1 (k2 g) (CaX.of en (by omega)) kn_X2_nextOf wm_337 wm_338 wm_339 (rs_ok (Nat.le_of_ble_eq_true rfl)) rfl rfl dX2_canAct_2 ?_
  refine tj_istore_n (lv' := [(0, .inr (.inr (a0))), (1, .inl (a1)), (2, .inl (x2))]) ok dX2_canAct_5 rfl (by decide) rfl ?_
  refine tj_iload_n ok 2 dX2_canAct_6 rfl rfl ?_
  refine tj_aload_n ok 0 dX2_canAct_7 rfl rfl ?_
  refine tj_getR (k := 7) ok fcX2 (by decide) wm_154 rfl (Or.inl ⟨_, rfl⟩) dX2_canAct_8 e3 ?_
  refine tj_getI (k := 12) ok fcX0 (by decide) wm_269 rfl (Or.inl rfl) dX2_canAct_11 e4 ?_
  refine tj_icmp_lt (tgt := 19) ok dX2_canAct_14 (by decide) (fun hc => ?_) (fun hc => ?_)
  · rw [if_pos hc] at hf
    exact (q_X2_canAct_19 hf).2 X g K ok nmx lev hK en
  · rw [if_neg hc] at hf
    refine tj_sub (lv' := []) [] rfl ?_
    exact (q_X2_canAct_17 hf).2 X g K ok nmx lev hK en
def f_X2_canAct (a0 : Nat) (a1 : Int32) (h : AH) : Option (Int32 × AH) := b_X2_canAct_0  a0 a1 h
theorem c_X2_canAct {a0 : Nat} {a1 : Int32} {h hE : AH} {v : Int32} (hf : f_X2_canAct a0 a1 h = some (v, hE)) : ∀ g : GT, CM g (4) yX2_canAct cX2_canAct 4 (some .boolean) h [.inr (.inr (a0)), .inl (a1)] hE (some (.inl (v))) :=
  CM.ofJ (by decide) (by show _ ≤ 4; exact Nat.le_of_ble_eq_true rfl) (q_X2_canAct_0 hf)
/-! ===== LitmusHouse$Machine.sights(I)I ===== -/
def b_X2_sights_47  (h : AH) : Option (Int32 × AH) :=
  some ((256 : Int32), h)
set_option maxHeartbeats 4000000 in
set_option maxRecDepth 100000 in
theorem q_X2_sights_47 {h hE : AH} {v : Int32} (hf : b_X2_sights_47  h = some (v, hE)) : JD cX2_sights 9 RX2 "sights" (some .int) (4) 47 [] [] h hE (some (.inl (v))) := by
  unfold b_X2_sights_47 at hf
  obtain ⟨hv, hh⟩ := Prod.mk.inj (Option.some.inj hf)
  subst hv
  subst hh
  have mE : hp_n h ≤ hp_n h ∧ hp_s h ≤ hp_s h := ⟨Nat.le_refl _, Nat.le_refl _⟩
  refine ⟨by omega, fun X g K ok nmx lev hK en => ?_⟩
  refine tj_sipush (v := 256) ok dX2_sights_47 (by decide) ?_
  exact tj_ireturn ok en dX2_sights_50
def b_X2_sights_102 (s0 : Int32) (s1 : Int32) (h : AH) : Option (Int32 × AH) :=
  some (s0 <<< (s1 &&& 31), h)
set_option maxHeartbeats 4000000 in
set_option maxRecDepth 100000 in
theorem q_X2_sights_102 {s0 : Int32} {s1 : Int32} {h hE : AH} {v : Int32} (hf : b_X2_sights_102 s0 s1 h = some (v, hE)) : JD cX2_sights 9 RX2 "sights" (some .int) (4) 102 [] [.inl (s1), .inl (s0)] h hE (some (.inl (v))) := by
  unfold b_X2_sights_102 at hf
  obtain ⟨hv, hh⟩ := Prod.mk.inj (Option.some.inj hf)
  subst hv
  subst hh
  have mE : hp_n h ≤ hp_n h ∧ hp_s h ≤ hp_s h := ⟨Nat.le_refl _, Nat.le_refl _⟩
  refine ⟨by omega, fun X g K ok nmx lev hK en => ?_⟩
  refine tj_ishl ok dX2_sights_102 ?_
  exact tj_ireturn ok en dX2_sights_103
def b_X2_sights_98 (a5 : Int32) (s0 : Int32) (h : AH) : Option (Int32 × AH) :=
  b_X2_sights_102 s0 (a5 - (1 : Int32)) h
set_option maxHeartbeats 4000000 in
set_option maxRecDepth 100000 in
theorem q_X2_sights_98 {a5 : Int32} {s0 : Int32} {h hE : AH} {v : Int32} (hf : b_X2_sights_98 a5 s0 h = some (v, hE)) : JD cX2_sights 9 RX2 "sights" (some .int) (4) 98 [(5, .inl (a5))] [.inl (s0)] h hE (some (.inl (v))) := by
  unfold b_X2_sights_98 at hf
  have J := q_X2_sights_102 hf
  have mE := J.1
  refine ⟨by omega, fun X g K ok nmx lev hK en => ?_⟩
  refine tj_iload ok 0 dX2_sights_98 rfl ?_
  refine tj_iconst (v := 1) ok dX2_sights_100 (by decide) ?_
  refine tj_isub ok dX2_sights_101 ?_
  refine tj_sub (lv' := []) [] rfl ?_
  exact J.2 X g K ok nmx lev hK en
def b_X2_sights_93 (s0 : Int32) (h : AH) : Option (Int32 × AH) :=
  b_X2_sights_102 s0 (8 : Int32) h
set_option maxHeartbeats 4000000 in
set_option maxRecDepth 100000 in
theorem q_X2_sights_93 {s0 : Int32} {h hE : AH} {v : Int32} (hf : b_X2_sights_93 s0 h = some (v, hE)) : JD cX2_sights 9 RX2 "sights" (some .int) (4) 93 [] [.inl (s0)] h hE (some (.inl (v))) := by
  unfold b_X2_sights_93 at hf
  have J := q_X2_sights_102 hf
  have mE := J.1
  refine ⟨by omega, fun X g K ok nmx lev hK en => ?_⟩
  refine tj_bipush (v := 8) ok dX2_sights_93 (by decide) ?_
  refine tj_goto (tgt := 102) ok dX2_sights_95 (by decide) ?_
  exact J.2 X g K ok nmx lev hK en
def b_X2_sights_79 (a0 : Nat) (a4 : Int32) (h : AH) : Option (Int32 × AH) :=
  (ok_v h a0 2).bind fun x1 => (f_X2_inCell a0 a4 h).bind fun q2 => if q2.1 = 0 then b_X2_sights_93 (1 : Int32) q2.2 else b_X2_sights_98 q2.1 (1 : Int32) q2.2
set_option maxHeartbeats 4000000 in
set_option maxRecDepth 100000 in
theorem q_X2_sights_79 {a0 : Nat} {a4 : Int32} {h hE : AH} {v : Int32} (hf : b_X2_sights_79 a0 a4 h = some (v, hE)) : JD cX2_sights 9 RX2 "sights" (some .int) (4) 79 [(0, .inr (.inr (a0))), (4, .inl (a4))] [] h hE (some (.inl (v))) := by
  unfold b_X2_sights_79 at hf
  obtain ⟨x1, e1, hf⟩ := bnd hf
  obtain ⟨⟨x2, h2⟩, e2, hf⟩ := bnd hf
  try dsimp only at hf
  have k2 := c_X2_inCell e2
  have m2 := (k2 default_g).1
  have mE : hp_n h2 ≤ hp_n hE ∧ hp_s h2 ≤ hp_s hE := by
    by_cases hc : x2 = 0
    · rw [if_pos hc] at hf; exact (q_X2_sights_93 hf).1
    · rw [if_neg hc] at hf; exact (q_X2_sights_98 hf).1
  refine ⟨by omega, fun X g K ok nmx lev hK en => ?_⟩
  refine tj_aload_n ok 0 dX2_sights_79 rfl rfl ?_
  refine tj_iload ok 1 dX2_sights_80 rfl ?_
  refine tj_callV (rest := ([] : List TV).map (vl g)) (as := [.inl (a4)]) ok lev (by omega) fcX2.1 (by decide) rfl (of_if e1).1 (k2 g) (CaX.of en (by omega)) kn_X2_inCell wm_309 wm_310 wm_311 (rs_ok (Nat.le_of_ble_eq_true rfl)) rfl rfl dX2_sights_82 ?_
  refine tj_istore (lv' := [(0, .inr (.inr (a0))), (4, .inl (a4)), (5, .inl (x2))]) ok dX2_sights_85 (by decide) rfl ?_
  refine tj_iconst (v := 1) ok dX2_sights_87 (by decide) ?_
  refine tj_iload ok 2 dX2_sights_88 rfl ?_
  refine tj_if_ne (tgt := 98) ok dX2_sights_90 (by decide) (fun hc => ?_) (fun hc => ?_)
  · rw [if_neg hc] at hf
    refine tj_sub (lv' := [(5, .inl (x2))]) [2] rfl ?_
    exact (q_X2_sights_98 hf).2 X g K ok nmx lev hK en
  · rw [if_pos hc] at hf
    refine tj_sub (lv' := []) [] rfl ?_
    exact (q_X2_sights_93 hf).2 X g K ok nmx lev hK en
def b_X2_sights_178 (a5 : Int32) (a7 : Int32) (h : AH) : Option (Int32 × AH) :=
  some ((a5 ||| (256 : Int32)) &&& (a7 ^^^ (-1 : Int32)), h)
set_option maxHeartbeats 4000000 in
set_option maxRecDepth 100000 in
theorem q_X2_sights_178 {a5 : Int32} {a7 : Int32} {h hE : AH} {v : Int32} (hf : b_X2_sights_178 a5 a7 h = some (v, hE)) : JD cX2_sights 9 RX2 "sights" (some .int) (4) 178 [(5, .inl (a5)), (7, .inl (a7))] [] h hE (some (.inl (v))) := by
  unfold b_X2_sights_178 at hf
  obtain ⟨hv, hh⟩ := Prod.mk.inj (Option.some.inj hf)
  subst hv
  subst hh
  have mE : hp_n h ≤ hp_n h ∧ hp_s h ≤ hp_s h := ⟨Nat.le_refl _, Nat.le_refl _⟩
  refine ⟨by omega, fun X g K ok nmx lev hK en => ?_⟩
  refine tj_iload ok 0 dX2_sights_178 rfl ?_
  refine tj_sipush (v := 256) ok dX2_sights_180 (by decide) ?_
  refine tj_ior ok dX2_sights_183 ?_
  refine tj_iload ok 1 dX2_sights_184 rfl ?_
  refine tj_iconst (v := -1) ok dX2_sights_186 (by decide) ?_
  refine tj_ixor ok dX2_sights_187 ?_
  refine tj_iand ok dX2_sights_188 ?_
  exact tj_ireturn ok en dX2_sights_189
def b_X2_sights_172 (r137 : Nat → Int32 → Int32 → Int32 → Int32 → AH → Option (Int32 × AH)) (a0 : Nat) (a5 : Int32) (a6 : Int32) (a7 : Int32) (a8 : Int32) (h : AH) : Option (Int32 × AH) :=
  r137 a0 a5 a6 a7 (a8 + (1 : Int32)) h
set_option maxHeartbeats 4000000 in
set_option maxRecDepth 100000 in
theorem q_X2_sights_172 {hE : AH} {v : Int32} {r137 : Nat → Int32 → Int32 → Int32 → Int32 → AH → Option (Int32 × AH)} (hr137 : ∀ (b0 : Nat) (b5 : Int32) (b6 : Int32) (b7 : Int32) (b8 : Int32) (h : AH), r137 b0 b5 b6 b7 b8 h = some (v, hE) → JD cX2_sights 9 RX2 "sights" (some .int) (4) 137 [(0, .inr (.inr (b0))), (5, .inl (b5)), (6, .inl (b6)), (7, .inl (b7)), (8, .inl (b8))] [] h hE (some (.inl (v)))) {a0 : Nat} {a5 : Int32} {a6 : Int32} {a7 : Int32} {a8 : Int32} {h : AH} (hf : b_X2_sights_172 r137 a0 a5 a6 a7 a8 h = some (v, hE)) : JD cX2_sights 9 RX2 "sights" (some .int) (4) 172 [(0, .inr (.inr (a0))), (5, .inl (a5)), (6, .inl (a6)), (7, .inl (a7)), (8, .inl (a8))] [] h hE (some (.inl (v))) := by
  unfold b_X2_sights_172 at hf
  have J := hr137 _ _ _ _ _ _ hf
  have mE := J.1
  refine ⟨by omega, fun X g K ok nmx lev hK en => ?_⟩
  refine tj_iinc (lv' := [(0, .inr (.inr (a0))), (5, .inl (a5)), (6, .inl (a6)), (7, .inl (a7)), (8, .inl (a8 + (1 : Int32)))]) ok 4 dX2_sights_172 rfl (rfl) (by decide) rfl ?_
  refine tj_goto (tgt := 137) ok dX2_sights_175 (by decide) ?_
  exact J.2 X g K ok nmx lev hK en
def b_X2_sights_157 (r137 : Nat → Int32 → Int32 → Int32 → Int32 → AH → Option (Int32 × AH)) (a0 : Nat) (a5 : Int32) (a6 : Int32) (a7 : Int32) (a8 : Int32) (h : AH) : Option (Int32 × AH) :=
  (ok_v h a0 2).bind fun x1 => (f_X2_earlierThan a0 a8 h).bind fun q2 => b_X2_sights_172 r137 a0 a5 a6 (a7 ||| (q2.1 ||| (256 : Int32))) a8 q2.2
set_option maxHeartbeats 4000000 in
set_option maxRecDepth 100000 in
theorem q_X2_sights_157 {hE : AH} {v : Int32} {r137 : Nat → Int32 → Int32 → Int32 → Int32 → AH → Option (Int32 × AH)} (hr137 : ∀ (b0 : Nat) (b5 : Int32) (b6 : Int32) (b7 : Int32) (b8 : Int32) (h : AH), r137 b0 b5 b6 b7 b8 h = some (v, hE) → JD cX2_sights 9 RX2 "sights" (some .int) (4) 137 [(0, .inr (.inr (b0))), (5, .inl (b5)), (6, .inl (b6)), (7, .inl (b7)), (8, .inl (b8))] [] h hE (some (.inl (v)))) {a0 : Nat} {a5 : Int32} {a6 : Int32} {a7 : Int32} {a8 : Int32} {h : AH} (hf : b_X2_sights_157 r137 a0 a5 a6 a7 a8 h = some (v, hE)) : JD cX2_sights 9 RX2 "sights" (some .int) (4) 157 [(0, .inr (.inr (a0))), (5, .inl (a5)), (6, .inl (a6)), (7, .inl (a7)), (8, .inl (a8))] [] h hE (some (.inl (v))) := by
  unfold b_X2_sights_157 at hf
  obtain ⟨x1, e1, hf⟩ := bnd hf
  obtain ⟨⟨x2, h2⟩, e2, hf⟩ := bnd hf
  try dsimp only at hf
  have k2 := c_X2_earlierThan e2
  have m2 := (k2 default_g).1
  have J := q_X2_sights_172 hr137 hf
  have mE := J.1
  refine ⟨by omega, fun X g K ok nmx lev hK en => ?_⟩
  refine tj_iload ok 3 dX2_sights_157 rfl ?_
  refine tj_aload_n ok 0 dX2_sights_159 rfl rfl ?_
  refine tj_iload ok 4 dX2_sights_160 rfl ?_
  refine tj_callV (rest := ([.inl (a7)] : List TV).map (vl g)) (as := [.inl (a8)]) ok lev (by omega) fcX2.1 (by decide) rfl (of_if e1).1 (k2 g) (CaX.of en (by omega)) kn_X2_earlierThan wm_288 wm_289 wm_290 (rs_ok (Nat.le_of_ble_eq_true rfl)) rfl rfl dX2_sights_162 ?_
  refine tj_sipush (v := 256) ok dX2_sights_165 (by decide) ?_
  refine tj_ior ok dX2_sights_168 ?_
  refine tj_ior ok dX2_sights_169 ?_
  refine tj_istore (lv' := [(0, .inr (.inr (a0))), (5, .inl (a5)), (6, .inl (a6)), (7, .inl (a7 ||| (x2 ||| (256 : Int32)))), (8, .inl (a8))]) ok dX2_sights_170 (by decide) rfl ?_
  exact J.2 X g K ok nmx lev hK en
def b_X2_sights_144 (r137 : Nat → Int32 → Int32 → Int32 → Int32 → AH → Option (Int32 × AH)) (a0 : Nat) (a5 : Int32) (a6 : Int32) (a7 : Int32) (a8 : Int32) (h : AH) : Option (Int32 × AH) :=
  if ((a5 &&& a6) &&& ((1 : Int32) <<< (a8 &&& 31))) = 0 then b_X2_sights_172 r137 a0 a5 a6 a7 a8 h else b_X2_sights_157 r137 a0 a5 a6 a7 a8 h
set_option maxHeartbeats 4000000 in
set_option maxRecDepth 100000 in
theorem q_X2_sights_144 {hE : AH} {v : Int32} {r137 : Nat → Int32 → Int32 → Int32 → Int32 → AH → Option (Int32 × AH)} (hr137 : ∀ (b0 : Nat) (b5 : Int32) (b6 : Int32) (b7 : Int32) (b8 : Int32) (h : AH), r137 b0 b5 b6 b7 b8 h = some (v, hE) → JD cX2_sights 9 RX2 "sights" (some .int) (4) 137 [(0, .inr (.inr (b0))), (5, .inl (b5)), (6, .inl (b6)), (7, .inl (b7)), (8, .inl (b8))] [] h hE (some (.inl (v)))) {a0 : Nat} {a5 : Int32} {a6 : Int32} {a7 : Int32} {a8 : Int32} {h : AH} (hf : b_X2_sights_144 r137 a0 a5 a6 a7 a8 h = some (v, hE)) : JD cX2_sights 9 RX2 "sights" (some .int) (4) 144 [(0, .inr (.inr (a0))), (5, .inl (a5)), (6, .inl (a6)), (7, .inl (a7)), (8, .inl (a8))] [] h hE (some (.inl (v))) := by
  unfold b_X2_sights_144 at hf
  have mE : hp_n h ≤ hp_n hE ∧ hp_s h ≤ hp_s hE := by
    by_cases hc : ((a5 &&& a6) &&& ((1 : Int32) <<< (a8 &&& 31))) = 0
    · rw [if_pos hc] at hf; exact (q_X2_sights_172 hr137 hf).1
    · rw [if_neg hc] at hf; exact (q_X2_sights_157 hr137 hf).1
  refine ⟨by omega, fun X g K ok nmx lev hK en => ?_⟩
  refine tj_iload ok 1 dX2_sights_144 rfl ?_
  refine tj_iload ok 2 dX2_sights_146 rfl ?_
  refine tj_iand ok dX2_sights_148 ?_
  refine tj_iconst (v := 1) ok dX2_sights_149 (by decide) ?_
  refine tj_iload ok 4 dX2_sights_150 rfl ?_
  refine tj_ishl ok dX2_sights_152 ?_
  refine tj_iand ok dX2_sights_153 ?_
  refine tj_if_eq (tgt := 172) ok dX2_sights_154 (by decide) (fun hc => ?_) (fun hc => ?_)
  · rw [if_pos hc] at hf
    exact (q_X2_sights_172 hr137 hf).2 X g K ok nmx lev hK en
  · rw [if_neg hc] at hf
    exact (q_X2_sights_157 hr137 hf).2 X g K ok nmx lev hK en
def b_X2_sights_137 (r137 : Nat → Int32 → Int32 → Int32 → Int32 → AH → Option (Int32 × AH)) (a0 : Nat) (a5 : Int32) (a6 : Int32) (a7 : Int32) (a8 : Int32) (h : AH) : Option (Int32 × AH) :=
  if (8 : Int32) ≤ a8 then b_X2_sights_178 a5 a7 h else b_X2_sights_144 r137 a0 a5 a6 a7 a8 h
set_option maxHeartbeats 4000000 in
set_option maxRecDepth 100000 in
theorem q_X2_sights_137 {hE : AH} {v : Int32} {r137 : Nat → Int32 → Int32 → Int32 → Int32 → AH → Option (Int32 × AH)} (hr137 : ∀ (b0 : Nat) (b5 : Int32) (b6 : Int32) (b7 : Int32) (b8 : Int32) (h : AH), r137 b0 b5 b6 b7 b8 h = some (v, hE) → JD cX2_sights 9 RX2 "sights" (some .int) (4) 137 [(0, .inr (.inr (b0))), (5, .inl (b5)), (6, .inl (b6)), (7, .inl (b7)), (8, .inl (b8))] [] h hE (some (.inl (v)))) {a0 : Nat} {a5 : Int32} {a6 : Int32} {a7 : Int32} {a8 : Int32} {h : AH} (hf : b_X2_sights_137 r137 a0 a5 a6 a7 a8 h = some (v, hE)) : JD cX2_sights 9 RX2 "sights" (some .int) (4) 137 [(0, .inr (.inr (a0))), (5, .inl (a5)), (6, .inl (a6)), (7, .inl (a7)), (8, .inl (a8))] [] h hE (some (.inl (v))) := by
  unfold b_X2_sights_137 at hf
  have mE : hp_n h ≤ hp_n hE ∧ hp_s h ≤ hp_s hE := by
    by_cases hc : (8 : Int32) ≤ a8
    · rw [if_pos hc] at hf; exact (q_X2_sights_178 hf).1
    · rw [if_neg hc] at hf; exact (q_X2_sights_144 hr137 hf).1
  refine ⟨by omega, fun X g K ok nmx lev hK en => ?_⟩
  refine tj_iload ok 4 dX2_sights_137 rfl ?_
  refine tj_bipush (v := 8) ok dX2_sights_139 (by decide) ?_
  refine tj_icmp_ge (tgt := 178) ok dX2_sights_141 (by decide) (fun hc => ?_) (fun hc => ?_)
  · rw [if_pos hc] at hf
    refine tj_sub (lv' := [(5, .inl (a5)), (7, .inl (a7))]) [1, 3] rfl ?_
    exact (q_X2_sights_178 hf).2 X g K ok nmx lev hK en
  · rw [if_neg hc] at hf
    exact (q_X2_sights_144 hr137 hf).2 X g K ok nmx lev hK en
def l_X2_sights_137 : Nat → Nat → Int32 → Int32 → Int32 → Int32 → AH → Option (Int32 × AH)
  | 0 => fun _ _ _ _ _ _ => none
  | n + 1 => fun a0 a5 a6 a7 a8 h => b_X2_sights_137 (l_X2_sights_137 n) a0 a5 a6 a7 a8 h
theorem ql_X2_sights_137 {n : Nat} {a0 : Nat} {a5 : Int32} {a6 : Int32} {a7 : Int32} {a8 : Int32} {h hE : AH} {v : Int32} (hf : l_X2_sights_137 n a0 a5 a6 a7 a8 h = some (v, hE)) : JD cX2_sights 9 RX2 "sights" (some .int) (4) 137 [(0, .inr (.inr (a0))), (5, .inl (a5)), (6, .inl (a6)), (7, .inl (a7)), (8, .inl (a8))] [] h hE (some (.inl (v))) := by
  induction n generalizing a0 a5 a6 a7 a8 h with
  | zero => cases hf
  | succ n ih => exact q_X2_sights_137 (fun _ _ _ _ _ _ hf => ih hf) hf
def b_X2_sights_104 (a0 : Nat) (a1 : Int32) (a2 : Int32) (a4 : Int32) (h : AH) : Option (Int32 × AH) :=
  (g_r h a0 2 4).bind fun x1 => (l_i h x1 (a4 &&& (7 : Int32))).bind fun x2 => (ok_v h a0 2).bind fun x3 => (f_X2_doneActions a0 h).bind fun q4 => (ok_v q4.2 a0 2).bind fun x5 => (f_X2_aheadOf a0 a1 a2 (8 : Int32) q4.2).bind fun q6 => l_X2_sights_137 fu_ a0 (x2 &&& q4.1) q6.1 (0 : Int32) (0 : Int32) q6.2
set_option maxHeartbeats 4000000 in
set_option maxRecDepth 100000 in
theorem q_X2_sights_104 {a0 : Nat} {a1 : Int32} {a2 : Int32} {a4 : Int32} {h hE : AH} {v : Int32} (hf : b_X2_sights_104 a0 a1 a2 a4 h = some (v, hE)) : JD cX2_sights 9 RX2 "sights" (some .int) (4) 104 [(0, .inr (.inr (a0))), (1, .inl (a1)), (2, .inl (a2)), (4, .inl (a4))] [] h hE (some (.inl (v))) := by
  unfold b_X2_sights_104 at hf
  obtain ⟨x1, e1, hf⟩ := bnd hf
  obtain ⟨x2, e2, hf⟩ := bnd hf
  obtain ⟨x3, e3, hf⟩ := bnd hf
  obtain ⟨⟨x4, h4⟩, e4, hf⟩ := bnd hf
  try dsimp only at hf
  have k4 := c_X2_doneActions e4
  have m4 := (k4 default_g).1
  obtain ⟨x5, e5, hf⟩ := bnd hf
  obtain ⟨⟨x6, h6⟩, e6, hf⟩ := bnd hf
  try dsimp only at hf
  have k6 := c_X2_aheadOf e6
  have m6 := (k6 default_g).1
  have J := ql_X2_sights_137 hf
  have mE := J.1
  refine ⟨by omega, fun X g K ok nmx lev hK en => ?_⟩
  refine tj_aload_n ok 0 dX2_sights_104 rfl rfl ?_
  refine tj_getR (k := 4) ok fcX2 (by decide) wm_148 rfl (Or.inr ⟨_, rfl⟩) dX2_sights_105 e1 ?_
  refine tj_iload ok 3 dX2_sights_108 rfl ?_
  refine tj_bipush (v := 7) ok dX2_sights_110 (by decide) ?_
  refine tj_iand ok dX2_sights_112 ?_
  refine tj_iaload ok dX2_sights_113 e2 ?_
  refine tj_aload_n ok 0 dX2_sights_114 rfl rfl ?_
  refine tj_callV (rest := ([.inl (x2)] : List TV).map (vl g)) (as := []) ok lev (by omega) fcX2.1 (by decide) rfl (of_if e3).1 (k4 g) (CaX.of en (by omega)) kn_X2_doneActions wm_298 wm_299 wm_300 (rs_ok (Nat.le_of_ble_eq_true rfl)) rfl rfl dX2_sights_115 ?_
  refine tj_iand ok dX2_sights_118 ?_
  refine tj_istore (lv' := [(0, .inr (.inr (a0))), (1, .inl (a1)), (2, .inl (a2)), (4, .inl (a4)), (5, .inl (x2 &&& x4))]) ok dX2_sights_119 (by decide) rfl ?_
  refine tj_aload_n ok 0 dX2_sights_121 rfl rfl ?_
  refine tj_iload_n ok 1 dX2_sights_122 rfl rfl ?_
  refine tj_iload_n ok 2 dX2_sights_123 rfl rfl ?_
  refine tj_bipush (v := 8) ok dX2_sights_124 (by decide) ?_
  refine tj_callV (rest := ([] : List TV).map (vl g)) (as := [.inl (a1), .inl (a2), .inl ((8 : Int32))]) ok lev (by omega) fcX2.1 (by decide) rfl (of_if e5).1 (k6 g) (CaX.of en (by omega)) kn_X2_aheadOf wm_334 wm_335 wm_336 (rs_ok (Nat.le_of_ble_eq_true rfl)) rfl rfl dX2_sights_126 ?_
  refine tj_istore (lv' := [(0, .inr (.inr (a0))), (1, .inl (a1)), (2, .inl (a2)), (4, .inl (a4)), (5, .inl (x2 &&& x4)), (6, .inl (x6))]) ok dX2_sights_129 (by decide) rfl ?_
  refine tj_iconst (v := 0) ok dX2_sights_131 (by decide) ?_
  refine tj_istore (lv' := [(0, .inr (.inr (a0))), (1, .inl (a1)), (2, .inl (a2)), (4, .inl (a4)), (5, .inl (x2 &&& x4)), (6, .inl (x6)), (7, .inl ((0 : Int32)))]) ok dX2_sights_132 (by decide) rfl ?_
  refine tj_iconst (v := 0) ok dX2_sights_134 (by decide) ?_
  refine tj_istore (lv' := [(0, .inr (.inr (a0))), (1, .inl (a1)), (2, .inl (a2)), (4, .inl (a4)), (5, .inl (x2 &&& x4)), (6, .inl (x6)), (7, .inl ((0 : Int32))), (8, .inl ((0 : Int32)))]) ok dX2_sights_135 (by decide) rfl ?_
  refine tj_sub (lv' := [(0, .inr (.inr (a0))), (5, .inl (x2 &&& x4)), (6, .inl (x6)), (7, .inl ((0 : Int32))), (8, .inl ((0 : Int32)))]) [0, 4, 5, 6, 7] rfl ?_
  exact J.2 X g K ok nmx lev hK en
def b_X2_sights_70 (a0 : Nat) (a1 : Int32) (a2 : Int32) (a4 : Int32) (h : AH) : Option (Int32 × AH) :=
  (ok_v h a0 2).bind fun x1 => (f_X2_isVolatile a0 a4 h).bind fun q2 => if q2.1 = 0 then b_X2_sights_104 a0 a1 a2 a4 q2.2 else b_X2_sights_79 a0 a4 q2.2
set_option maxHeartbeats 4000000 in
set_option maxRecDepth 100000 in
theorem q_X2_sights_70 {a0 : Nat} {a1 : Int32} {a2 : Int32} {a4 : Int32} {h hE : AH} {v : Int32} (hf : b_X2_sights_70 a0 a1 a2 a4 h = some (v, hE)) : JD cX2_sights 9 RX2 "sights" (some .int) (4) 70 [(0, .inr (.inr (a0))), (1, .inl (a1)), (2, .inl (a2)), (4, .inl (a4))] [] h hE (some (.inl (v))) := by
  unfold b_X2_sights_70 at hf
  obtain ⟨x1, e1, hf⟩ := bnd hf
  obtain ⟨⟨x2, h2⟩, e2, hf⟩ := bnd hf
  try dsimp only at hf
  have k2 := c_X2_isVolatile e2
  have m2 := (k2 default_g).1
  have mE : hp_n h2 ≤ hp_n hE ∧ hp_s h2 ≤ hp_s hE := by
    by_cases hc : x2 = 0
    · rw [if_pos hc] at hf; exact (q_X2_sights_104 hf).1
    · rw [if_neg hc] at hf; exact (q_X2_sights_79 hf).1
  refine ⟨by omega, fun X g K ok nmx lev hK en => ?_⟩
  refine tj_aload_n ok 0 dX2_sights_70 rfl rfl ?_
  refine tj_iload ok 3 dX2_sights_71 rfl ?_
  refine tj_callV (rest := ([] : List TV).map (vl g)) (as := [.inl (a4)]) ok lev (by omega) fcX2.1 (by decide) rfl (of_if e1).1 (k2 g) (CaX.of en (by omega)) kn_X2_isVolatile wm_295 wm_296 wm_297 (rs_ok (Nat.le_of_ble_eq_true rfl)) rfl rfl dX2_sights_73 ?_
  refine tj_if_eq (tgt := 104) ok dX2_sights_76 (by decide) (fun hc => ?_) (fun hc => ?_)
  · rw [if_pos hc] at hf
    exact (q_X2_sights_104 hf).2 X g K ok nmx lev hK en
  · rw [if_neg hc] at hf
    refine tj_sub (lv' := [(0, .inr (.inr (a0))), (4, .inl (a4))]) [0, 3] rfl ?_
    exact (q_X2_sights_79 hf).2 X g K ok nmx lev hK en
def b_X2_sights_51 (a0 : Nat) (a1 : Int32) (a2 : Int32) (h : AH) : Option (Int32 × AH) :=
  (g_r h a0 2 7).bind fun x1 => (g_r h x1 0 4).bind fun x2 => (l_i h x2 a2).bind fun x3 => (g_i h a0 2 3).bind fun x4 => if x4 = (3 : Int32) then b_X2_sights_79 a0 x3 h else b_X2_sights_70 a0 a1 a2 x3 h
set_option maxHeartbeats 4000000 in
set_option maxRecDepth 100000 in
theorem q_X2_sights_51 {a0 : Nat} {a1 : Int32} {a2 : Int32} {h hE : AH} {v : Int32} (hf : b_X2_sights_51 a0 a1 a2 h = some (v, hE)) : JD cX2_sights 9 RX2 "sights" (some .int) (4) 51 [(0, .inr (.inr (a0))), (1, .inl (a1)), (2, .inl (a2))] [] h hE (some (.inl (v))) := by
  unfold b_X2_sights_51 at hf
  obtain ⟨x1, e1, hf⟩ := bnd hf
  obtain ⟨x2, e2, hf⟩ := bnd hf
  obtain ⟨x3, e3, hf⟩ := bnd hf
  obtain ⟨x4, e4, hf⟩ := bnd hf
  have mE : hp_n h ≤ hp_n hE ∧ hp_s h ≤ hp_s hE := by
    by_cases hc : x4 = (3 : Int32)
    · rw [if_pos hc] at hf; exact (q_X2_sights_79 hf).1
    · rw [if_neg hc] at hf; exact (q_X2_sights_70 hf).1
  refine ⟨by omega, fun X g K ok nmx lev hK en => ?_⟩
  refine tj_aload_n ok 0 dX2_sights_51 rfl rfl ?_
  refine tj_getR (k := 7) ok fcX2 (by decide) wm_154 rfl (Or.inl ⟨_, rfl⟩) dX2_sights_52 e1 ?_
  refine tj_getR (k := 4) ok fcX0 (by decide) wm_301 rfl (Or.inr ⟨_, rfl⟩) dX2_sights_55 e2 ?_
  refine tj_iload_n ok 2 dX2_sights_58 rfl rfl ?_
  refine tj_iaload ok dX2_sights_59 e3 ?_
  refine tj_istore (lv' := [(0, .inr (.inr (a0))), (1, .inl (a1)), (2, .inl (a2)), (4, .inl (x3))]) ok dX2_sights_60 (by decide) rfl ?_
  refine tj_aload_n ok 0 dX2_sights_62 rfl rfl ?_
  refine tj_getI (k := 3) ok fcX2 (by decide) wm_147 rfl (Or.inl rfl) dX2_sights_63 e4 ?_
  refine tj_iconst (v := 3) ok dX2_sights_66 (by decide) ?_
  refine tj_icmp_eq (tgt := 79) ok dX2_sights_67 (by decide) (fun hc => ?_) (fun hc => ?_)
  · rw [if_pos hc] at hf
    refine tj_sub (lv' := [(0, .inr (.inr (a0))), (4, .inl (x3))]) [0, 3] rfl ?_
    exact (q_X2_sights_79 hf).2 X g K ok nmx lev hK en
  · rw [if_neg hc] at hf
    exact (q_X2_sights_70 hf).2 X g K ok nmx lev hK en
def b_X2_sights_42 (a0 : Nat) (a1 : Int32) (a2 : Int32) (a3 : Int32) (h : AH) : Option (Int32 × AH) :=
  if a3 = (2 : Int32) then b_X2_sights_51 a0 a1 a2 h else b_X2_sights_47 h
set_option maxHeartbeats 4000000 in
set_option maxRecDepth 100000 in
theorem q_X2_sights_42 {a0 : Nat} {a1 : Int32} {a2 : Int32} {a3 : Int32} {h hE : AH} {v : Int32} (hf : b_X2_sights_42 a0 a1 a2 a3 h = some (v, hE)) : JD cX2_sights 9 RX2 "sights" (some .int) (4) 42 [(0, .inr (.inr (a0))), (1, .inl (a1)), (2, .inl (a2)), (3, .inl (a3))] [] h hE (some (.inl (v))) := by
  unfold b_X2_sights_42 at hf
  have mE : hp_n h ≤ hp_n hE ∧ hp_s h ≤ hp_s hE := by
    by_cases hc : a3 = (2 : Int32)
    · rw [if_pos hc] at hf; exact (q_X2_sights_51 hf).1
    · rw [if_neg hc] at hf; exact (q_X2_sights_47 hf).1
  refine ⟨by omega, fun X g K ok nmx lev hK en => ?_⟩
  refine tj_iload_n ok 3 dX2_sights_42 rfl rfl ?_
  refine tj_iconst (v := 2) ok dX2_sights_43 (by decide) ?_
  refine tj_icmp_eq (tgt := 51) ok dX2_sights_44 (by decide) (fun hc => ?_) (fun hc => ?_)
  · rw [if_pos hc] at hf
    refine tj_sub (lv' := [(0, .inr (.inr (a0))), (1, .inl (a1)), (2, .inl (a2))]) [0, 1, 2] rfl ?_
    exact (q_X2_sights_51 hf).2 X g K ok nmx lev hK en
  · rw [if_neg hc] at hf
    refine tj_sub (lv' := []) [] rfl ?_
    exact (q_X2_sights_47 hf).2 X g K ok nmx lev hK en
def b_X2_sights_38 (a0 : Nat) (a1 : Int32) (a2 : Int32) (a3 : Int32) (h : AH) : Option (Int32 × AH) :=
  if a3 = 0 then b_X2_sights_51 a0 a1 a2 h else b_X2_sights_42 a0 a1 a2 a3 h
set_option maxHeartbeats 4000000 in
set_option maxRecDepth 100000 in
theorem q_X2_sights_38 {a0 : Nat} {a1 : Int32} {a2 : Int32} {a3 : Int32} {h hE : AH} {v : Int32} (hf : b_X2_sights_38 a0 a1 a2 a3 h = some (v, hE)) : JD cX2_sights 9 RX2 "sights" (some .int) (4) 38 [(0, .inr (.inr (a0))), (1, .inl (a1)), (2, .inl (a2)), (3, .inl (a3))] [] h hE (some (.inl (v))) := by
  unfold b_X2_sights_38 at hf
  have mE : hp_n h ≤ hp_n hE ∧ hp_s h ≤ hp_s hE := by
    by_cases hc : a3 = 0
    · rw [if_pos hc] at hf; exact (q_X2_sights_51 hf).1
    · rw [if_neg hc] at hf; exact (q_X2_sights_42 hf).1
  refine ⟨by omega, fun X g K ok nmx lev hK en => ?_⟩
  refine tj_iload_n ok 3 dX2_sights_38 rfl rfl ?_
  refine tj_if_eq (tgt := 51) ok dX2_sights_39 (by decide) (fun hc => ?_) (fun hc => ?_)
  · rw [if_pos hc] at hf
    refine tj_sub (lv' := [(0, .inr (.inr (a0))), (1, .inl (a1)), (2, .inl (a2))]) [0, 1, 2] rfl ?_
    exact (q_X2_sights_51 hf).2 X g K ok nmx lev hK en
  · rw [if_neg hc] at hf
    exact (q_X2_sights_42 hf).2 X g K ok nmx lev hK en
def b_X2_sights_0 (a0 : Nat) (a1 : Int32) (h : AH) : Option (Int32 × AH) :=
  (g_r h a0 2 7).bind fun x1 => (g_r h x1 0 8).bind fun x2 => (ok_v h a0 2).bind fun x3 => (f_X2_nextOf a0 a1 h).bind fun q4 => (l_i q4.2 x2 (q4.1 &&& (7 : Int32))).bind fun x5 => (g_r q4.2 a0 2 7).bind fun x6 => (g_r q4.2 x6 0 0).bind fun x7 => (l_i q4.2 x7 (x5 &&& (63 : Int32))).bind fun x8 => (g_i q4.2 a0 2 3).bind fun x9 => if x9 < (2 : Int32) then b_X2_sights_47 q4.2 else b_X2_sights_38 a0 a1 (x5 &&& (63 : Int32)) x8 q4.2
set_option maxHeartbeats 4000000 in
set_option maxRecDepth 100000 in
theorem q_X2_sights_0 {a0 : Nat} {a1 : Int32} {h hE : AH} {v : Int32} (hf : b_X2_sights_0 a0 a1 h = some (v, hE)) : JD cX2_sights 9 RX2 "sights" (some .int) (4) 0 [(0, .inr (.inr (a0))), (1, .inl (a1))] [] h hE (some (.inl (v))) := by
  unfold b_X2_sights_0 at hf
  obtain ⟨x1, e1, hf⟩ := bnd hf
  obtain ⟨x2, e2, hf⟩ := bnd hf
  obtain ⟨x3, e3, hf⟩ := bnd hf
  obtain ⟨⟨x4, h4⟩, e4, hf⟩ := bnd hf
  try dsimp only at hf
  have k4 := c_X2_nextOf e4
  have m4 := (k4 default_g).1
  obtain ⟨x5, e5, hf⟩ := bnd hf
  obtain ⟨x6, e6, hf⟩ := bnd hf
  obtain ⟨x7, e7, hf⟩ := bnd hf
  obtain ⟨x8, e8, hf⟩ := bnd hf
  obtain ⟨x9, e9, hf⟩ := bnd hf
  have mE : hp_n h4 ≤ hp_n hE ∧ hp_s h4 ≤ hp_s hE := by
    by_cases hc : x9 < (2 : Int32)
    · rw [if_pos hc] at hf; exact (q_X2_sights_47 hf).1
    · rw [if_neg hc] at hf; exact (q_X2_sights_38 hf).1
  refine ⟨by omega, fun X g K ok nmx lev hK en => ?_⟩
  refine tj_aload_n ok 0 dX2_sights_0 rfl rfl ?_
  refine tj_getR (k := 7) ok fcX2 (by decide) wm_154 rfl (Or.inl ⟨_, rfl⟩) dX2_sights_1 e1 ?_
  refine tj_getR (k := 8) ok fcX0 (by decide) wm_340 rfl (Or.inr ⟨_, rfl⟩) dX2_sights_4 e2 ?_
  refine tj_aload_n ok 0 dX2_sights_7 rfl rfl ?_
  refine tj_iload_n ok 1 dX2_sights_8 rfl rfl ?_
  refine tj_callV (rest := ([.inr (.inr (x2))] : List TV).map (vl g)) (as := [.inl (a1)]) ok lev (by omega) fcX2.1 (by decide) rfl (of_if e3).1 (k4 g) (CaX.of en (by omega)) kn_X2_nextOf wm_337 wm_338 wm_339 (rs_ok (Nat.le_of_ble_eq_true rfl)) rfl rfl dX2_sights_9 ?_
  refine tj_bipush (v := 7) ok dX2_sights_12 (by decide) ?_
  refine tj_iand ok dX2_sights_14 ?_
  refine tj_iaload ok dX2_sights_15 e5 ?_
  refine tj_bipush (v := 63) ok dX2_sights_16 (by decide) ?_
  refine tj_iand ok dX2_sights_18 ?_
  refine tj_istore_n (lv' := [(0, .inr (.inr (a0))), (1, .inl (a1)), (2, .inl (x5 &&& (63 : Int32)))]) ok dX2_sights_19 rfl (by decide) rfl ?_
  refine tj_aload_n ok 0 dX2_sights_20 rfl rfl ?_
  refine tj_getR (k := 7) ok fcX2 (by decide) wm_154 rfl (Or.inl ⟨_, rfl⟩) dX2_sights_21 e6 ?_
  refine tj_getR (k := 0) ok fcX0 (by decide) wm_253 rfl (Or.inr ⟨_, rfl⟩) dX2_sights_24 e7 ?_
  refine tj_iload_n ok 2 dX2_sights_27 rfl rfl ?_
  refine tj_iaload ok dX2_sights_28 e8 ?_
  refine tj_istore_n (lv' := [(0, .inr (.inr (a0))), (1, .inl (a1)), (2, .inl (x5 &&& (63 : Int32))), (3, .inl (x8))]) ok dX2_sights_29 rfl (by decide) rfl ?_
  refine tj_aload_n ok 0 dX2_sights_30 rfl rfl ?_
  refine tj_getI (k := 3) ok fcX2 (by decide) wm_147 rfl (Or.inl rfl) dX2_sights_31 e9 ?_
  refine tj_iconst (v := 2) ok dX2_sights_34 (by decide) ?_
  refine tj_icmp_lt (tgt := 47) ok dX2_sights_35 (by decide) (fun hc => ?_) (fun hc => ?_)
  · rw [if_pos hc] at hf
    refine tj_sub (lv' := []) [] rfl ?_
    exact (q_X2_sights_47 hf).2 X g K ok nmx lev hK en
  · rw [if_neg hc] at hf
    exact (q_X2_sights_38 hf).2 X g K ok nmx lev hK en
def f_X2_sights (a0 : Nat) (a1 : Int32) (h : AH) : Option (Int32 × AH) := b_X2_sights_0  a0 a1 h
theorem c_X2_sights {a0 : Nat} {a1 : Int32} {h hE : AH} {v : Int32} (hf : f_X2_sights a0 a1 h = some (v, hE)) : ∀ g : GT, CM g (4) yX2_sights cX2_sights 9 (some .int) h [.inr (.inr (a0)), .inl (a1)] hE (some (.inl (v))) :=
  CM.ofJ (by decide) (by show _ ≤ 9; exact Nat.le_of_ble_eq_true rfl) (q_X2_sights_0 hf)
/-! ===== LitmusHouse$Machine.emptyFirst(I)V ===== -/
def b_X2_emptyFirst_100  (h : AH) : Option (AH) :=
  some h
set_option maxHeartbeats 4000000 in
set_option maxRecDepth 100000 in
theorem q_X2_emptyFirst_100 {h hE : AH} (hf : b_X2_emptyFirst_100  h = some hE) : JD cX2_emptyFirst 4 RX2 "emptyFirst" none (3) 100 [] [] h hE none := by
  unfold b_X2_emptyFirst_100 at hf
  have hh := Option.some.inj hf
  subst hh
  have mE : hp_n h ≤ hp_n h ∧ hp_s h ≤ hp_s h := ⟨Nat.le_refl _, Nat.le_refl _⟩
  refine ⟨by omega, fun X g K ok nmx lev hK en => ?_⟩
  exact tj_return ok en dX2_emptyFirst_100
def b_X2_emptyFirst_94 (r8 : Nat → Int32 → Int32 → AH → Option (AH)) (a0 : Nat) (a2 : Int32) (a3 : Int32) (h : AH) : Option (AH) :=
  r8 a0 a2 (a3 + (1 : Int32)) h
set_option maxHeartbeats 4000000 in
set_option maxRecDepth 100000 in
theorem q_X2_emptyFirst_94 {hE : AH} {r8 : Nat → Int32 → Int32 → AH → Option (AH)} (hr8 : ∀ (b0 : Nat) (b2 : Int32) (b3 : Int32) (h : AH), r8 b0 b2 b3 h = some hE → JD cX2_emptyFirst 4 RX2 "emptyFirst" none (3) 8 [(0, .inr (.inr (b0))), (2, .inl (b2)), (3, .inl (b3))] [] h hE none) {a0 : Nat} {a2 : Int32} {a3 : Int32} {h : AH} (hf : b_X2_emptyFirst_94 r8 a0 a2 a3 h = some hE) : JD cX2_emptyFirst 4 RX2 "emptyFirst" none (3) 94 [(0, .inr (.inr (a0))), (2, .inl (a2)), (3, .inl (a3))] [] h hE none := by
  unfold b_X2_emptyFirst_94 at hf
  have J := hr8 _ _ _ _ hf
  have mE := J.1
  refine ⟨by omega, fun X g K ok nmx lev hK en => ?_⟩
  refine tj_iinc (lv' := [(0, .inr (.inr (a0))), (2, .inl (a2)), (3, .inl (a3 + (1 : Int32)))]) ok 2 dX2_emptyFirst_94 rfl (rfl) (by decide) rfl ?_
  refine tj_goto (tgt := 8) ok dX2_emptyFirst_97 (by decide) ?_
  exact J.2 X g K ok nmx lev hK en
def b_X2_emptyFirst_22 (a0 : Nat) (a3 : Int32) (h : AH) : Option (AH) :=
  (g_r h a0 2 7).bind fun x1 => (g_r h x1 0 4).bind fun x2 => (g_r h a0 2 7).bind fun x3 => (g_r h x3 0 8).bind fun x4 => (l_i h x4 a3).bind fun x5 => (l_i h x2 (x5 &&& (63 : Int32))).bind fun x6 => (ok_v h a0 2).bind fun x7 => (f_X2_writtenBy a0 a3 h).bind fun q8 => (ok_v q8.2 a0 2).bind fun x9 => (f_X2_putInCell a0 x6 q8.1 q8.2).bind fun h10 => (g_j h10 a0 2 0).bind fun x11 => (p_j h10 a0 2 0 (x11 &&& (((1 : Int64) <<< (((55 : Int32) + a3).toInt64 &&& 63)) ^^^ (-1 : Int64)))).bind fun h12 => (g_j h12 a0 2 1).bind fun x13 => (p_j h12 a0 2 1 (x13 &&& (((15 : Int64) <<< (((24 : Int32) + ((4 : Int32) * a3)).toInt64 &&& 63)) ^^^ (-1 : Int64)))).bind fun h14 => some h14
set_option maxHeartbeats 4000000 in
set_option maxRecDepth 100000 in
theorem q_X2_emptyFirst_22 {a0 : Nat} {a3 : Int32} {h hE : AH} (hf : b_X2_emptyFirst_22 a0 a3 h = some hE) : JD cX2_emptyFirst 4 RX2 "emptyFirst" none (3) 22 [(0, .inr (.inr (a0))), (3, .inl (a3))] [] h hE none := by
  unfold b_X2_emptyFirst_22 at hf
  obtain ⟨x1, e1, hf⟩ := bnd hf
  obtain ⟨x2, e2, hf⟩ := bnd hf
  obtain ⟨x3, e3, hf⟩ := bnd hf
  obtain ⟨x4, e4, hf⟩ := bnd hf
  obtain ⟨x5, e5, hf⟩ := bnd hf
  obtain ⟨x6, e6, hf⟩ := bnd hf
  obtain ⟨x7, e7, hf⟩ := bnd hf
  obtain ⟨⟨x8, h8⟩, e8, hf⟩ := bnd hf
  try dsimp only at hf
  have k8 := c_X2_writtenBy e8
  have m8 := (k8 default_g).1
  obtain ⟨x9, e9, hf⟩ := bnd hf
  obtain ⟨h10, e10, hf⟩ := bnd hf
  have k10 := c_X2_putInCell e10
  have m10 := (k10 default_g).1
  obtain ⟨x11, e11, hf⟩ := bnd hf
  obtain ⟨h12, e12, hf⟩ := bnd hf
  have m12 := nn_pj e12
  obtain ⟨x13, e13, hf⟩ := bnd hf
  obtain ⟨h14, e14, hf⟩ := bnd hf
  have m14 := nn_pj e14
  have hh := Option.some.inj hf
  subst hh
  have mE : hp_n h14 ≤ hp_n h14 ∧ hp_s h14 ≤ hp_s h14 := ⟨Nat.le_refl _, Nat.le_refl _⟩
  refine ⟨by omega, fun X g K ok nmx lev hK en => ?_⟩
  refine tj_aload_n ok 0 dX2_emptyFirst_22 rfl rfl ?_
  refine tj_aload_n ok 0 dX2_emptyFirst_23 rfl rfl ?_
  refine tj_getR (k := 7) ok fcX2 (by decide) wm_154 rfl (Or.inl ⟨_, rfl⟩) dX2_emptyFirst_24 e1 ?_
  refine tj_getR (k := 4) ok fcX0 (by decide) wm_301 rfl (Or.inr ⟨_, rfl⟩) dX2_emptyFirst_27 e2 ?_
  refine tj_aload_n ok 0 dX2_emptyFirst_30 rfl rfl ?_
  refine tj_getR (k := 7) ok fcX2 (by decide) wm_154 rfl (Or.inl ⟨_, rfl⟩) dX2_emptyFirst_31 e3 ?_
  refine tj_getR (k := 8) ok fcX0 (by decide) wm_340 rfl (Or.inr ⟨_, rfl⟩) dX2_emptyFirst_34 e4 ?_
  refine tj_iload_n ok 1 dX2_emptyFirst_37 rfl rfl ?_
  refine tj_iaload ok dX2_emptyFirst_38 e5 ?_
  refine tj_bipush (v := 63) ok dX2_emptyFirst_39 (by decide) ?_
  refine tj_iand ok dX2_emptyFirst_41 ?_
  refine tj_iaload ok dX2_emptyFirst_42 e6 ?_
  refine tj_aload_n ok 0 dX2_emptyFirst_43 rfl rfl ?_
  refine tj_iload_n ok 1 dX2_emptyFirst_44 rfl rfl ?_
  refine tj_callV (rest := ([.inl (x6), .inr (.inr (a0))] : List TV).map (vl g)) (as := [.inl (a3)]) ok lev (by omega) fcX2.1 (by decide) rfl (of_if e7).1 (k8 g) (CaX.of en (by omega)) kn_X2_writtenBy wm_312 wm_313 wm_314 (rs_ok (Nat.le_of_ble_eq_true rfl)) rfl rfl dX2_emptyFirst_45 ?_
  refine tj_callV (rest := ([] : List TV).map (vl g)) (as := [.inl (x6), .inl (x8)]) ok lev (by omega) fcX2.1 (by decide) rfl (of_if e9).1 (k10 g) (CaX.of en (by omega)) kn_X2_putInCell wm_320 wm_321 wm_322 (rs_ok (Nat.le_of_ble_eq_true rfl)) rfl rfl dX2_emptyFirst_48 ?_
  refine tj_aload_n ok 0 dX2_emptyFirst_51 rfl rfl ?_
  refine tj_dupa ok dX2_emptyFirst_52 ?_
  refine tj_getJ (k := 0) ok fcX2 (by decide) wm_144 rfl rfl dX2_emptyFirst_53 e11 ?_
  refine tj_lconst (v := 1) ok dX2_emptyFirst_56 (by decide) ?_
  refine tj_bipush (v := 55) ok dX2_emptyFirst_57 (by decide) ?_
  refine tj_iload_n ok 1 dX2_emptyFirst_59 rfl rfl ?_
  refine tj_iadd ok dX2_emptyFirst_60 ?_
  refine tj_lshl ok dX2_emptyFirst_61 ?_
  refine tj_ldc2 (v := -1) ok dX2_emptyFirst_62 wm_239 ?_
  refine tj_lxor ok dX2_emptyFirst_65 ?_
  refine tj_land ok dX2_emptyFirst_66 ?_
  refine tj_putJ (k := 0) ok fcX2 (by decide) wm_144 rfl (Or.inl rfl) rfl dX2_emptyFirst_67 e12 ?_
  refine tj_aload_n ok 0 dX2_emptyFirst_70 rfl rfl ?_
  refine tj_dupa ok dX2_emptyFirst_71 ?_
  refine tj_getJ (k := 1) ok fcX2 (by decide) wm_145 rfl rfl dX2_emptyFirst_72 e13 ?_
  refine tj_ldc2 (v := 15) ok dX2_emptyFirst_75 wm_238 ?_
  refine tj_bipush (v := 24) ok dX2_emptyFirst_78 (by decide) ?_
  refine tj_iconst (v := 4) ok dX2_emptyFirst_80 (by decide) ?_
  refine tj_iload_n ok 1 dX2_emptyFirst_81 rfl rfl ?_
  refine tj_imul ok dX2_emptyFirst_82 ?_
  refine tj_iadd ok dX2_emptyFirst_83 ?_
  refine tj_lshl ok dX2_emptyFirst_84 ?_
  refine tj_ldc2 (v := -1) ok dX2_emptyFirst_85 wm_239 ?_
  refine tj_lxor ok dX2_emptyFirst_88 ?_
  refine tj_land ok dX2_emptyFirst_89 ?_
  refine tj_putJ (k := 1) ok fcX2 (by decide) wm_145 rfl (Or.inl rfl) rfl dX2_emptyFirst_90 e14 ?_
  exact tj_return ok en dX2_emptyFirst_93
def b_X2_emptyFirst_14 (r8 : Nat → Int32 → Int32 → AH → Option (AH)) (a0 : Nat) (a2 : Int32) (a3 : Int32) (h : AH) : Option (AH) :=
  if ((a2 >>> (a3 &&& 31)) &&& (1 : Int32)) = 0 then b_X2_emptyFirst_94 r8 a0 a2 a3 h else b_X2_emptyFirst_22 a0 a3 h
set_option maxHeartbeats 4000000 in
set_option maxRecDepth 100000 in
theorem q_X2_emptyFirst_14 {hE : AH} {r8 : Nat → Int32 → Int32 → AH → Option (AH)} (hr8 : ∀ (b0 : Nat) (b2 : Int32) (b3 : Int32) (h : AH), r8 b0 b2 b3 h = some hE → JD cX2_emptyFirst 4 RX2 "emptyFirst" none (3) 8 [(0, .inr (.inr (b0))), (2, .inl (b2)), (3, .inl (b3))] [] h hE none) {a0 : Nat} {a2 : Int32} {a3 : Int32} {h : AH} (hf : b_X2_emptyFirst_14 r8 a0 a2 a3 h = some hE) : JD cX2_emptyFirst 4 RX2 "emptyFirst" none (3) 14 [(0, .inr (.inr (a0))), (2, .inl (a2)), (3, .inl (a3))] [] h hE none := by
  unfold b_X2_emptyFirst_14 at hf
  have mE : hp_n h ≤ hp_n hE ∧ hp_s h ≤ hp_s hE := by
    by_cases hc : ((a2 >>> (a3 &&& 31)) &&& (1 : Int32)) = 0
    · rw [if_pos hc] at hf; exact (q_X2_emptyFirst_94 hr8 hf).1
    · rw [if_neg hc] at hf; exact (q_X2_emptyFirst_22 hf).1
  refine ⟨by omega, fun X g K ok nmx lev hK en => ?_⟩
  refine tj_iload_n ok 1 dX2_emptyFirst_14 rfl rfl ?_
  refine tj_iload_n ok 2 dX2_emptyFirst_15 rfl rfl ?_
  refine tj_ishr ok dX2_emptyFirst_16 ?_
  refine tj_iconst (v := 1) ok dX2_emptyFirst_17 (by decide) ?_
  refine tj_iand ok dX2_emptyFirst_18 ?_
  refine tj_if_eq (tgt := 94) ok dX2_emptyFirst_19 (by decide) (fun hc => ?_) (fun hc => ?_)
  · rw [if_pos hc] at hf
    exact (q_X2_emptyFirst_94 hr8 hf).2 X g K ok nmx lev hK en
  · rw [if_neg hc] at hf
    refine tj_sub (lv' := [(0, .inr (.inr (a0))), (3, .inl (a3))]) [0, 2] rfl ?_
    exact (q_X2_emptyFirst_22 hf).2 X g K ok nmx lev hK en
def b_X2_emptyFirst_8 (r8 : Nat → Int32 → Int32 → AH → Option (AH)) (a0 : Nat) (a2 : Int32) (a3 : Int32) (h : AH) : Option (AH) :=
  if (8 : Int32) ≤ a3 then b_X2_emptyFirst_100 h else b_X2_emptyFirst_14 r8 a0 a2 a3 h
set_option maxHeartbeats 4000000 in
set_option maxRecDepth 100000 in
theorem q_X2_emptyFirst_8 {hE : AH} {r8 : Nat → Int32 → Int32 → AH → Option (AH)} (hr8 : ∀ (b0 : Nat) (b2 : Int32) (b3 : Int32) (h : AH), r8 b0 b2 b3 h = some hE → JD cX2_emptyFirst 4 RX2 "emptyFirst" none (3) 8 [(0, .inr (.inr (b0))), (2, .inl (b2)), (3, .inl (b3))] [] h hE none) {a0 : Nat} {a2 : Int32} {a3 : Int32} {h : AH} (hf : b_X2_emptyFirst_8 r8 a0 a2 a3 h = some hE) : JD cX2_emptyFirst 4 RX2 "emptyFirst" none (3) 8 [(0, .inr (.inr (a0))), (2, .inl (a2)), (3, .inl (a3))] [] h hE none := by
  unfold b_X2_emptyFirst_8 at hf
  have mE : hp_n h ≤ hp_n hE ∧ hp_s h ≤ hp_s hE := by
    by_cases hc : (8 : Int32) ≤ a3
    · rw [if_pos hc] at hf; exact (q_X2_emptyFirst_100 hf).1
    · rw [if_neg hc] at hf; exact (q_X2_emptyFirst_14 hr8 hf).1
  refine ⟨by omega, fun X g K ok nmx lev hK en => ?_⟩
  refine tj_iload_n ok 2 dX2_emptyFirst_8 rfl rfl ?_
  refine tj_bipush (v := 8) ok dX2_emptyFirst_9 (by decide) ?_
  refine tj_icmp_ge (tgt := 100) ok dX2_emptyFirst_11 (by decide) (fun hc => ?_) (fun hc => ?_)
  · rw [if_pos hc] at hf
    refine tj_sub (lv' := []) [] rfl ?_
    exact (q_X2_emptyFirst_100 hf).2 X g K ok nmx lev hK en
  · rw [if_neg hc] at hf
    exact (q_X2_emptyFirst_14 hr8 hf).2 X g K ok nmx lev hK en
def l_X2_emptyFirst_8 : Nat → Nat → Int32 → Int32 → AH → Option (AH)
  | 0 => fun _ _ _ _ => none
  | n + 1 => fun a0 a2 a3 h => b_X2_emptyFirst_8 (l_X2_emptyFirst_8 n) a0 a2 a3 h
theorem ql_X2_emptyFirst_8 {n : Nat} {a0 : Nat} {a2 : Int32} {a3 : Int32} {h hE : AH} (hf : l_X2_emptyFirst_8 n a0 a2 a3 h = some hE) : JD cX2_emptyFirst 4 RX2 "emptyFirst" none (3) 8 [(0, .inr (.inr (a0))), (2, .inl (a2)), (3, .inl (a3))] [] h hE none := by
  induction n generalizing a0 a2 a3 h with
  | zero => cases hf
  | succ n ih => exact q_X2_emptyFirst_8 (fun _ _ _ _ hf => ih hf) hf
def b_X2_emptyFirst_0 (a0 : Nat) (a1 : Int32) (h : AH) : Option (AH) :=
  (ok_v h a0 2).bind fun x1 => (f_X2_queueOf a0 a1 h).bind fun q2 => l_X2_emptyFirst_8 fu_ a0 q2.1 (0 : Int32) q2.2
set_option maxHeartbeats 4000000 in
set_option maxRecDepth 100000 in
theorem q_X2_emptyFirst_0 {a0 : Nat} {a1 : Int32} {h hE : AH} (hf : b_X2_emptyFirst_0 a0 a1 h = some hE) : JD cX2_emptyFirst 4 RX2 "emptyFirst" none (3) 0 [(0, .inr (.inr (a0))), (1, .inl (a1))] [] h hE none := by
  unfold b_X2_emptyFirst_0 at hf
  obtain ⟨x1, e1, hf⟩ := bnd hf
  obtain ⟨⟨x2, h2⟩, e2, hf⟩ := bnd hf
  try dsimp only at hf
  have k2 := c_X2_queueOf e2
  have m2 := (k2 default_g).1
  have J := ql_X2_emptyFirst_8 hf
  have mE := J.1
  refine ⟨by omega, fun X g K ok nmx lev hK en => ?_⟩
  refine tj_aload_n ok 0 dX2_emptyFirst_0 rfl rfl ?_
  refine tj_iload_n ok 1 dX2_emptyFirst_1 rfl rfl ?_
  refine tj_callV (rest := ([] : List TV).map (vl g)) (as := [.inl (a1)]) ok lev (by omega) fcX2.1 (by decide) rfl (of_if e1).1 (k2 g) (CaX.of en (by omega)) kn_X2_queueOf wm_315 wm_316 wm_317 (rs_ok (Nat.le_of_ble_eq_true rfl)) rfl rfl dX2_emptyFirst_2 ?_
  refine tj_istore_n (lv' := [(0, .inr (.inr (a0))), (1, .inl (a1)), (2, .inl (x2))]) ok dX2_emptyFirst_5 rfl (by decide) rfl ?_
  refine tj_iconst (v := 0) ok dX2_emptyFirst_6 (by decide) ?_
  refine tj_istore_n (lv' := [(0, .inr (.inr (a0))), (1, .inl (a1)), (2, .inl (x2)), (3, .inl ((0 : Int32)))]) ok dX2_emptyFirst_7 rfl (by decide) rfl ?_
  refine tj_sub (lv' := [(0, .inr (.inr (a0))), (2, .inl (x2)), (3, .inl ((0 : Int32)))]) [0, 2, 3] rfl ?_
  exact J.2 X g K ok nmx lev hK en
def f_X2_emptyFirst (a0 : Nat) (a1 : Int32) (h : AH) : Option (AH) := b_X2_emptyFirst_0  a0 a1 h
theorem c_X2_emptyFirst {a0 : Nat} {a1 : Int32} {h hE : AH} (hf : f_X2_emptyFirst a0 a1 h = some hE) : ∀ g : GT, CM g (3) yX2_emptyFirst cX2_emptyFirst 4 none h [.inr (.inr (a0)), .inl (a1)] hE none :=
  CM.ofJ (by decide) (by show _ ≤ 4; exact Nat.le_of_ble_eq_true rfl) (q_X2_emptyFirst_0 hf)
/-! ===== LitmusHouse$Machine.outcome()I ===== -/
def b_X2_outcome_64 (a1 : Int32) (h : AH) : Option (Int32 × AH) :=
  some (a1, h)
set_option maxHeartbeats 4000000 in
set_option maxRecDepth 100000 in
theorem q_X2_outcome_64 {a1 : Int32} {h hE : AH} {v : Int32} (hf : b_X2_outcome_64 a1 h = some (v, hE)) : JD cX2_outcome 3 RX2 "outcome" (some .int) (3) 64 [(1, .inl (a1))] [] h hE (some (.inl (v))) := by
  unfold b_X2_outcome_64 at hf
  obtain ⟨hv, hh⟩ := Prod.mk.inj (Option.some.inj hf)
  subst hv
  subst hh
  have mE : hp_n h ≤ hp_n h ∧ hp_s h ≤ hp_s h := ⟨Nat.le_refl _, Nat.le_refl _⟩
  refine ⟨by omega, fun X g K ok nmx lev hK en => ?_⟩
  refine tj_iload_n ok 0 dX2_outcome_64 rfl rfl ?_
  exact tj_ireturn ok en dX2_outcome_65
def b_X2_outcome_58 (r31 : Nat → Int32 → Int32 → AH → Option (Int32 × AH)) (a0 : Nat) (a1 : Int32) (a2 : Int32) (h : AH) : Option (Int32 × AH) :=
  r31 a0 a1 (a2 + (1 : Int32)) h
set_option maxHeartbeats 4000000 in
set_option maxRecDepth 100000 in
theorem q_X2_outcome_58 {hE : AH} {v : Int32} {r31 : Nat → Int32 → Int32 → AH → Option (Int32 × AH)} (hr31 : ∀ (b0 : Nat) (b1 : Int32) (b2 : Int32) (h : AH), r31 b0 b1 b2 h = some (v, hE) → JD cX2_outcome 3 RX2 "outcome" (some .int) (3) 31 [(0, .inr (.inr (b0))), (1, .inl (b1)), (2, .inl (b2))] [] h hE (some (.inl (v)))) {a0 : Nat} {a1 : Int32} {a2 : Int32} {h : AH} (hf : b_X2_outcome_58 r31 a0 a1 a2 h = some (v, hE)) : JD cX2_outcome 3 RX2 "outcome" (some .int) (3) 58 [(0, .inr (.inr (a0))), (1, .inl (a1)), (2, .inl (a2))] [] h hE (some (.inl (v))) := by
  unfold b_X2_outcome_58 at hf
  have J := hr31 _ _ _ _ hf
  have mE := J.1
  refine ⟨by omega, fun X g K ok nmx lev hK en => ?_⟩
  refine tj_iinc (lv' := [(0, .inr (.inr (a0))), (1, .inl (a1)), (2, .inl (a2 + (1 : Int32)))]) ok 2 dX2_outcome_58 rfl (rfl) (by decide) rfl ?_
  refine tj_goto (tgt := 31) ok dX2_outcome_61 (by decide) ?_
  exact J.2 X g K ok nmx lev hK en
def b_X2_outcome_52 (r31 : Nat → Int32 → Int32 → AH → Option (Int32 × AH)) (a0 : Nat) (a1 : Int32) (a2 : Int32) (h : AH) : Option (Int32 × AH) :=
  b_X2_outcome_58 r31 a0 (a1 ||| ((1 : Int32) <<< (a2 &&& 31))) a2 h
set_option maxHeartbeats 4000000 in
set_option maxRecDepth 100000 in
theorem q_X2_outcome_52 {hE : AH} {v : Int32} {r31 : Nat → Int32 → Int32 → AH → Option (Int32 × AH)} (hr31 : ∀ (b0 : Nat) (b1 : Int32) (b2 : Int32) (h : AH), r31 b0 b1 b2 h = some (v, hE) → JD cX2_outcome 3 RX2 "outcome" (some .int) (3) 31 [(0, .inr (.inr (b0))), (1, .inl (b1)), (2, .inl (b2))] [] h hE (some (.inl (v)))) {a0 : Nat} {a1 : Int32} {a2 : Int32} {h : AH} (hf : b_X2_outcome_52 r31 a0 a1 a2 h = some (v, hE)) : JD cX2_outcome 3 RX2 "outcome" (some .int) (3) 52 [(0, .inr (.inr (a0))), (1, .inl (a1)), (2, .inl (a2))] [] h hE (some (.inl (v))) := by
  unfold b_X2_outcome_52 at hf
  have J := q_X2_outcome_58 hr31 hf
  have mE := J.1
  refine ⟨by omega, fun X g K ok nmx lev hK en => ?_⟩
  refine tj_iload_n ok 1 dX2_outcome_52 rfl rfl ?_
  refine tj_iconst (v := 1) ok dX2_outcome_53 (by decide) ?_
  refine tj_iload_n ok 2 dX2_outcome_54 rfl rfl ?_
  refine tj_ishl ok dX2_outcome_55 ?_
  refine tj_ior ok dX2_outcome_56 ?_
  refine tj_istore_n (lv' := [(0, .inr (.inr (a0))), (1, .inl (a1 ||| ((1 : Int32) <<< (a2 &&& 31)))), (2, .inl (a2))]) ok dX2_outcome_57 rfl (by decide) rfl ?_
  exact J.2 X g K ok nmx lev hK en
def b_X2_outcome_42 (r31 : Nat → Int32 → Int32 → AH → Option (Int32 × AH)) (a0 : Nat) (a1 : Int32) (a2 : Int32) (h : AH) : Option (Int32 × AH) :=
  (ok_v h a0 2).bind fun x1 => (f_X2_nextOf a0 a2 h).bind fun q2 => if q2.1 = (8 : Int32) then b_X2_outcome_58 r31 a0 a1 a2 q2.2 else b_X2_outcome_52 r31 a0 a1 a2 q2.2
set_option maxHeartbeats 4000000 in
set_option maxRecDepth 100000 in
theorem q_X2_outcome_42 {hE : AH} {v : Int32} {r31 : Nat → Int32 → Int32 → AH → Option (Int32 × AH)} (hr31 : ∀ (b0 : Nat) (b1 : Int32) (b2 : Int32) (h : AH), r31 b0 b1 b2 h = some (v, hE) → JD cX2_outcome 3 RX2 "outcome" (some .int) (3) 31 [(0, .inr (.inr (b0))), (1, .inl (b1)), (2, .inl (b2))] [] h hE (some (.inl (v)))) {a0 : Nat} {a1 : Int32} {a2 : Int32} {h : AH} (hf : b_X2_outcome_42 r31 a0 a1 a2 h = some (v, hE)) : JD cX2_outcome 3 RX2 "outcome" (some .int) (3) 42 [(0, .inr (.inr (a0))), (1, .inl (a1)), (2, .inl (a2))] [] h hE (some (.inl (v))) := by
  unfold b_X2_outcome_42 at hf
  obtain ⟨x1, e1, hf⟩ := bnd hf
  obtain ⟨⟨x2, h2⟩, e2, hf⟩ := bnd hf
  try dsimp only at hf
  have k2 := c_X2_nextOf e2
  have m2 := (k2 default_g).1
  have mE : hp_n h2 ≤ hp_n hE ∧ hp_s h2 ≤ hp_s hE := by
    by_cases hc : x2 = (8 : Int32)
    · rw [if_pos hc] at hf; exact (q_X2_outcome_58 hr31 hf).1
    · rw [if_neg hc] at hf; exact (q_X2_outcome_52 hr31 hf).1
  refine ⟨by omega, fun X g K ok nmx lev hK en => ?_⟩
  refine tj_aload_n ok 0 dX2_outcome_42 rfl rfl ?_
  refine tj_iload_n ok 2 dX2_outcome_43 rfl rfl ?_
  refine tj_callV (rest := ([] : List TV).map (vl g)) (as := [.inl (a2)]) ok lev (by omega) fcX2.1 (by decide) rfl (of_if e1).1 (k2 g) (CaX.of en (by omega)) kn_X2_nextOf wm_337 wm_338 wm_339 (rs_ok (Nat.le_of_ble_eq_true rfl)) rfl rfl dX2_outcome_44 ?_
  refine tj_bipush (v := 8) ok dX2_outcome_47 (by decide) ?_
  refine tj_icmp_eq (tgt := 58) ok dX2_outcome_49 (by decide) (fun hc => ?_) (fun hc => ?_)
  · rw [if_pos hc] at hf
    exact (q_X2_outcome_58 hr31 hf).2 X g K ok nmx lev hK en
  · rw [if_neg hc] at hf
    exact (q_X2_outcome_52 hr31 hf).2 X g K ok nmx lev hK en
def b_X2_outcome_31 (r31 : Nat → Int32 → Int32 → AH → Option (Int32 × AH)) (a0 : Nat) (a1 : Int32) (a2 : Int32) (h : AH) : Option (Int32 × AH) :=
  (g_r h a0 2 7).bind fun x1 => (g_i h x1 0 11).bind fun x2 => if x2 ≤ a2 then b_X2_outcome_64 a1 h else b_X2_outcome_42 r31 a0 a1 a2 h
set_option maxHeartbeats 4000000 in
set_option maxRecDepth 100000 in
theorem q_X2_outcome_31 {hE : AH} {v : Int32} {r31 : Nat → Int32 → Int32 → AH → Option (Int32 × AH)} (hr31 : ∀ (b0 : Nat) (b1 : Int32) (b2 : Int32) (h : AH), r31 b0 b1 b2 h = some (v, hE) → JD cX2_outcome 3 RX2 "outcome" (some .int) (3) 31 [(0, .inr (.inr (b0))), (1, .inl (b1)), (2, .inl (b2))] [] h hE (some (.inl (v)))) {a0 : Nat} {a1 : Int32} {a2 : Int32} {h : AH} (hf : b_X2_outcome_31 r31 a0 a1 a2 h = some (v, hE)) : JD cX2_outcome 3 RX2 "outcome" (some .int) (3) 31 [(0, .inr (.inr (a0))), (1, .inl (a1)), (2, .inl (a2))] [] h hE (some (.inl (v))) := by
  unfold b_X2_outcome_31 at hf
  obtain ⟨x1, e1, hf⟩ := bnd hf
  obtain ⟨x2, e2, hf⟩ := bnd hf
  have mE : hp_n h ≤ hp_n hE ∧ hp_s h ≤ hp_s hE := by
    by_cases hc : x2 ≤ a2
    · rw [if_pos hc] at hf; exact (q_X2_outcome_64 hf).1
    · rw [if_neg hc] at hf; exact (q_X2_outcome_42 hr31 hf).1
  refine ⟨by omega, fun X g K ok nmx lev hK en => ?_⟩
  refine tj_iload_n ok 2 dX2_outcome_31 rfl rfl ?_
  refine tj_aload_n ok 0 dX2_outcome_32 rfl rfl ?_
  refine tj_getR (k := 7) ok fcX2 (by decide) wm_154 rfl (Or.inl ⟨_, rfl⟩) dX2_outcome_33 e1 ?_
  refine tj_getI (k := 11) ok fcX0 (by decide) wm_264 rfl (Or.inl rfl) dX2_outcome_36 e2 ?_
  refine tj_icmp_ge (tgt := 64) ok dX2_outcome_39 (by decide) (fun hc => ?_) (fun hc => ?_)
  · rw [if_pos hc] at hf
    refine tj_sub (lv' := [(1, .inl (a1))]) [1] rfl ?_
    exact (q_X2_outcome_64 hf).2 X g K ok nmx lev hK en
  · rw [if_neg hc] at hf
    exact (q_X2_outcome_42 hr31 hf).2 X g K ok nmx lev hK en
def l_X2_outcome_31 : Nat → Nat → Int32 → Int32 → AH → Option (Int32 × AH)
  | 0 => fun _ _ _ _ => none
  | n + 1 => fun a0 a1 a2 h => b_X2_outcome_31 (l_X2_outcome_31 n) a0 a1 a2 h
theorem ql_X2_outcome_31 {n : Nat} {a0 : Nat} {a1 : Int32} {a2 : Int32} {h hE : AH} {v : Int32} (hf : l_X2_outcome_31 n a0 a1 a2 h = some (v, hE)) : JD cX2_outcome 3 RX2 "outcome" (some .int) (3) 31 [(0, .inr (.inr (a0))), (1, .inl (a1)), (2, .inl (a2))] [] h hE (some (.inl (v))) := by
  induction n generalizing a0 a1 a2 h with
  | zero => cases hf
  | succ n ih => exact q_X2_outcome_31 (fun _ _ _ _ hf => ih hf) hf
def b_X2_outcome_25 (a0 : Nat) (a1 : Int32) (h : AH) : Option (Int32 × AH) :=
  l_X2_outcome_31 fu_ a0 (a1 <<< ((4 : Int32) &&& 31)) (0 : Int32) h
set_option maxHeartbeats 4000000 in
set_option maxRecDepth 100000 in
theorem q_X2_outcome_25 {a0 : Nat} {a1 : Int32} {h hE : AH} {v : Int32} (hf : b_X2_outcome_25 a0 a1 h = some (v, hE)) : JD cX2_outcome 3 RX2 "outcome" (some .int) (3) 25 [(0, .inr (.inr (a0))), (1, .inl (a1))] [] h hE (some (.inl (v))) := by
  unfold b_X2_outcome_25 at hf
  have J := ql_X2_outcome_31 hf
  have mE := J.1
  refine ⟨by omega, fun X g K ok nmx lev hK en => ?_⟩
  refine tj_iload_n ok 1 dX2_outcome_25 rfl rfl ?_
  refine tj_iconst (v := 4) ok dX2_outcome_26 (by decide) ?_
  refine tj_ishl ok dX2_outcome_27 ?_
  refine tj_istore_n (lv' := [(0, .inr (.inr (a0))), (1, .inl (a1 <<< ((4 : Int32) &&& 31)))]) ok dX2_outcome_28 rfl (by decide) rfl ?_
  refine tj_iconst (v := 0) ok dX2_outcome_29 (by decide) ?_
  refine tj_istore_n (lv' := [(0, .inr (.inr (a0))), (1, .inl (a1 <<< ((4 : Int32) &&& 31))), (2, .inl ((0 : Int32)))]) ok dX2_outcome_30 rfl (by decide) rfl ?_
  exact J.2 X g K ok nmx lev hK en
def b_X2_outcome_9 (r4 : Nat → Int32 → Int32 → AH → Option (Int32 × AH)) (a0 : Nat) (a1 : Int32) (a2 : Int32) (h : AH) : Option (Int32 × AH) :=
  (ok_v h a0 2).bind fun x1 => (f_X2_valueOf a0 a2 h).bind fun q2 => r4 a0 ((a1 <<< ((4 : Int32) &&& 31)) ||| q2.1) (a2 + (1 : Int32)) q2.2
set_option maxHeartbeats 4000000 in
set_option maxRecDepth 100000 in
theorem q_X2_outcome_9 {hE : AH} {v : Int32} {r4 : Nat → Int32 → Int32 → AH → Option (Int32 × AH)} (hr4 : ∀ (b0 : Nat) (b1 : Int32) (b2 : Int32) (h : AH), r4 b0 b1 b2 h = some (v, hE) → JD cX2_outcome 3 RX2 "outcome" (some .int) (3) 4 [(0, .inr (.inr (b0))), (1, .inl (b1)), (2, .inl (b2))] [] h hE (some (.inl (v)))) {a0 : Nat} {a1 : Int32} {a2 : Int32} {h : AH} (hf : b_X2_outcome_9 r4 a0 a1 a2 h = some (v, hE)) : JD cX2_outcome 3 RX2 "outcome" (some .int) (3) 9 [(0, .inr (.inr (a0))), (1, .inl (a1)), (2, .inl (a2))] [] h hE (some (.inl (v))) := by
  unfold b_X2_outcome_9 at hf
  obtain ⟨x1, e1, hf⟩ := bnd hf
  obtain ⟨⟨x2, h2⟩, e2, hf⟩ := bnd hf
  try dsimp only at hf
  have k2 := c_X2_valueOf e2
  have m2 := (k2 default_g).1
  have J := hr4 _ _ _ _ hf
  have mE := J.1
  refine ⟨by omega, fun X g K ok nmx lev hK en => ?_⟩
  refine tj_iload_n ok 1 dX2_outcome_9 rfl rfl ?_
  refine tj_iconst (v := 4) ok dX2_outcome_10 (by decide) ?_
  refine tj_ishl ok dX2_outcome_11 ?_
  refine tj_aload_n ok 0 dX2_outcome_12 rfl rfl ?_
  refine tj_iload_n ok 2 dX2_outcome_13 rfl rfl ?_
  refine tj_callV (rest := ([.inl (a1 <<< ((4 : Int32) &&& 31))] : List TV).map (vl g)) (as := [.inl (a2)]) ok lev (by omega) fcX2.1 (by decide) rfl (of_if e1).1 (k2 g) (CaX.of en (by omega)) kn_X2_valueOf wm_254 wm_255 wm_256 (rs_ok (Nat.le_of_ble_eq_true rfl)) rfl rfl dX2_outcome_14 ?_
  refine tj_ior ok dX2_outcome_17 ?_
  refine tj_istore_n (lv' := [(0, .inr (.inr (a0))), (1, .inl ((a1 <<< ((4 : Int32) &&& 31)) ||| x2)), (2, .inl (a2))]) ok dX2_outcome_18 rfl (by decide) rfl ?_
  refine tj_iinc (lv' := [(0, .inr (.inr (a0))), (1, .inl ((a1 <<< ((4 : Int32) &&& 31)) ||| x2)), (2, .inl (a2 + (1 : Int32)))]) ok 2 dX2_outcome_19 rfl (rfl) (by decide) rfl ?_
  refine tj_goto (tgt := 4) ok dX2_outcome_22 (by decide) ?_
  exact J.2 X g K ok nmx lev hK en
def b_X2_outcome_4 (r4 : Nat → Int32 → Int32 → AH → Option (Int32 × AH)) (a0 : Nat) (a1 : Int32) (a2 : Int32) (h : AH) : Option (Int32 × AH) :=
  if (5 : Int32) ≤ a2 then b_X2_outcome_25 a0 a1 h else b_X2_outcome_9 r4 a0 a1 a2 h
set_option maxHeartbeats 4000000 in
set_option maxRecDepth 100000 in
theorem q_X2_outcome_4 {hE : AH} {v : Int32} {r4 : Nat → Int32 → Int32 → AH → Option (Int32 × AH)} (hr4 : ∀ (b0 : Nat) (b1 : Int32) (b2 : Int32) (h : AH), r4 b0 b1 b2 h = some (v, hE) → JD cX2_outcome 3 RX2 "outcome" (some .int) (3) 4 [(0, .inr (.inr (b0))), (1, .inl (b1)), (2, .inl (b2))] [] h hE (some (.inl (v)))) {a0 : Nat} {a1 : Int32} {a2 : Int32} {h : AH} (hf : b_X2_outcome_4 r4 a0 a1 a2 h = some (v, hE)) : JD cX2_outcome 3 RX2 "outcome" (some .int) (3) 4 [(0, .inr (.inr (a0))), (1, .inl (a1)), (2, .inl (a2))] [] h hE (some (.inl (v))) := by
  unfold b_X2_outcome_4 at hf
  have mE : hp_n h ≤ hp_n hE ∧ hp_s h ≤ hp_s hE := by
    by_cases hc : (5 : Int32) ≤ a2
    · rw [if_pos hc] at hf; exact (q_X2_outcome_25 hf).1
    · rw [if_neg hc] at hf; exact (q_X2_outcome_9 hr4 hf).1
  refine ⟨by omega, fun X g K ok nmx lev hK en => ?_⟩
  refine tj_iload_n ok 2 dX2_outcome_4 rfl rfl ?_
  refine tj_iconst (v := 5) ok dX2_outcome_5 (by decide) ?_
  refine tj_icmp_ge (tgt := 25) ok dX2_outcome_6 (by decide) (fun hc => ?_) (fun hc => ?_)
  · rw [if_pos hc] at hf
    refine tj_sub (lv' := [(0, .inr (.inr (a0))), (1, .inl (a1))]) [0, 1] rfl ?_
    exact (q_X2_outcome_25 hf).2 X g K ok nmx lev hK en
  · rw [if_neg hc] at hf
    exact (q_X2_outcome_9 hr4 hf).2 X g K ok nmx lev hK en
def l_X2_outcome_4 : Nat → Nat → Int32 → Int32 → AH → Option (Int32 × AH)
  | 0 => fun _ _ _ _ => none
  | n + 1 => fun a0 a1 a2 h => b_X2_outcome_4 (l_X2_outcome_4 n) a0 a1 a2 h
theorem ql_X2_outcome_4 {n : Nat} {a0 : Nat} {a1 : Int32} {a2 : Int32} {h hE : AH} {v : Int32} (hf : l_X2_outcome_4 n a0 a1 a2 h = some (v, hE)) : JD cX2_outcome 3 RX2 "outcome" (some .int) (3) 4 [(0, .inr (.inr (a0))), (1, .inl (a1)), (2, .inl (a2))] [] h hE (some (.inl (v))) := by
  induction n generalizing a0 a1 a2 h with
  | zero => cases hf
  | succ n ih => exact q_X2_outcome_4 (fun _ _ _ _ hf => ih hf) hf
def b_X2_outcome_0 (a0 : Nat) (h : AH) : Option (Int32 × AH) :=
  l_X2_outcome_4 fu_ a0 (0 : Int32) (0 : Int32) h
set_option maxHeartbeats 4000000 in
set_option maxRecDepth 100000 in
theorem q_X2_outcome_0 {a0 : Nat} {h hE : AH} {v : Int32} (hf : b_X2_outcome_0 a0 h = some (v, hE)) : JD cX2_outcome 3 RX2 "outcome" (some .int) (3) 0 [(0, .inr (.inr (a0)))] [] h hE (some (.inl (v))) := by
  unfold b_X2_outcome_0 at hf
  have J := ql_X2_outcome_4 hf
  have mE := J.1
  refine ⟨by omega, fun X g K ok nmx lev hK en => ?_⟩
  refine tj_iconst (v := 0) ok dX2_outcome_0 (by decide) ?_
  refine tj_istore_n (lv' := [(0, .inr (.inr (a0))), (1, .inl ((0 : Int32)))]) ok dX2_outcome_1 rfl (by decide) rfl ?_
  refine tj_iconst (v := 0) ok dX2_outcome_2 (by decide) ?_
  refine tj_istore_n (lv' := [(0, .inr (.inr (a0))), (1, .inl ((0 : Int32))), (2, .inl ((0 : Int32)))]) ok dX2_outcome_3 rfl (by decide) rfl ?_
  exact J.2 X g K ok nmx lev hK en
def f_X2_outcome (a0 : Nat) (h : AH) : Option (Int32 × AH) := b_X2_outcome_0  a0 h
theorem c_X2_outcome {a0 : Nat} {h hE : AH} {v : Int32} (hf : f_X2_outcome a0 h = some (v, hE)) : ∀ g : GT, CM g (3) yX2_outcome cX2_outcome 3 (some .int) h [.inr (.inr (a0))] hE (some (.inl (v))) :=
  CM.ofJ (by decide) (by show _ ≤ 3; exact Nat.le_of_ble_eq_true rfl) (q_X2_outcome_0 hf)
/-! ===== LitmusHouse$Machine.mayHurry(I)Z ===== -/
def b_X2_mayHurry_104 (s0 : Int32) (h : AH) : Option (Int32 × AH) :=
  ok_z s0 h
set_option maxHeartbeats 4000000 in
set_option maxRecDepth 100000 in
theorem q_X2_mayHurry_104 {s0 : Int32} {h hE : AH} {v : Int32} (hf : b_X2_mayHurry_104 s0 h = some (v, hE)) : JD cX2_mayHurry 4 RX2 "mayHurry" (some .boolean) (3) 104 [] [.inl (s0)] h hE (some (.inl (v))) := by
  unfold b_X2_mayHurry_104 at hf
  have mE : hp_n h ≤ hp_n hE ∧ hp_s h ≤ hp_s hE := by obtain ⟨-, q⟩ := of_if hf; cases q; exact ⟨Nat.le_refl _, Nat.le_refl _⟩
  refine ⟨by omega, fun X g K ok nmx lev hK en => ?_⟩
  exact tj_zreturn ok hf en dX2_mayHurry_104
def b_X2_mayHurry_103  (h : AH) : Option (Int32 × AH) :=
  b_X2_mayHurry_104 (0 : Int32) h
set_option maxHeartbeats 4000000 in
set_option maxRecDepth 100000 in
theorem q_X2_mayHurry_103 {h hE : AH} {v : Int32} (hf : b_X2_mayHurry_103  h = some (v, hE)) : JD cX2_mayHurry 4 RX2 "mayHurry" (some .boolean) (3) 103 [] [] h hE (some (.inl (v))) := by
  unfold b_X2_mayHurry_103 at hf
  have J := q_X2_mayHurry_104 hf
  have mE := J.1
  refine ⟨by omega, fun X g K ok nmx lev hK en => ?_⟩
  refine tj_iconst (v := 0) ok dX2_mayHurry_103 (by decide) ?_
  exact J.2 X g K ok nmx lev hK en
def b_X2_mayHurry_99  (h : AH) : Option (Int32 × AH) :=
  b_X2_mayHurry_104 (1 : Int32) h
set_option maxHeartbeats 4000000 in
set_option maxRecDepth 100000 in
theorem q_X2_mayHurry_99 {h hE : AH} {v : Int32} (hf : b_X2_mayHurry_99  h = some (v, hE)) : JD cX2_mayHurry 4 RX2 "mayHurry" (some .boolean) (3) 99 [] [] h hE (some (.inl (v))) := by
  unfold b_X2_mayHurry_99 at hf
  have J := q_X2_mayHurry_104 hf
  have mE := J.1
  refine ⟨by omega, fun X g K ok nmx lev hK en => ?_⟩
  refine tj_iconst (v := 1) ok dX2_mayHurry_99 (by decide) ?_
  refine tj_goto (tgt := 104) ok dX2_mayHurry_100 (by decide) ?_
  exact J.2 X g K ok nmx lev hK en
def b_X2_mayHurry_86 (a0 : Nat) (a3 : Int32) (h : AH) : Option (Int32 × AH) :=
  (g_r h a0 2 7).bind fun x1 => (g_r h x1 0 0).bind fun x2 => (l_i h x2 a3).bind fun x3 => if x3 = (5 : Int32) then b_X2_mayHurry_99 h else b_X2_mayHurry_103 h
set_option maxHeartbeats 4000000 in
set_option maxRecDepth 100000 in
theorem q_X2_mayHurry_86 {a0 : Nat} {a3 : Int32} {h hE : AH} {v : Int32} (hf : b_X2_mayHurry_86 a0 a3 h = some (v, hE)) : JD cX2_mayHurry 4 RX2 "mayHurry" (some .boolean) (3) 86 [(0, .inr (.inr (a0))), (3, .inl (a3))] [] h hE (some (.inl (v))) := by
  unfold b_X2_mayHurry_86 at hf
  obtain ⟨x1, e1, hf⟩ := bnd hf
  obtain ⟨x2, e2, hf⟩ := bnd hf
  obtain ⟨x3, e3, hf⟩ := bnd hf
  have mE : hp_n h ≤ hp_n hE ∧ hp_s h ≤ hp_s hE := by
    by_cases hc : x3 = (5 : Int32)
    · rw [if_pos hc] at hf; exact (q_X2_mayHurry_99 hf).1
    · rw [if_neg hc] at hf; exact (q_X2_mayHurry_103 hf).1
  refine ⟨by omega, fun X g K ok nmx lev hK en => ?_⟩
  refine tj_aload_n ok 0 dX2_mayHurry_86 rfl rfl ?_
  refine tj_getR (k := 7) ok fcX2 (by decide) wm_154 rfl (Or.inl ⟨_, rfl⟩) dX2_mayHurry_87 e1 ?_
  refine tj_getR (k := 0) ok fcX0 (by decide) wm_253 rfl (Or.inr ⟨_, rfl⟩) dX2_mayHurry_90 e2 ?_
  refine tj_iload_n ok 1 dX2_mayHurry_93 rfl rfl ?_
  refine tj_iaload ok dX2_mayHurry_94 e3 ?_
  refine tj_iconst (v := 5) ok dX2_mayHurry_95 (by decide) ?_
  refine tj_icmp_ne (tgt := 103) ok dX2_mayHurry_96 (by decide) (fun hc => ?_) (fun hc => ?_)
  · rw [if_neg hc] at hf
    refine tj_sub (lv' := []) [] rfl ?_
    exact (q_X2_mayHurry_103 hf).2 X g K ok nmx lev hK en
  · rw [if_pos hc] at hf
    refine tj_sub (lv' := []) [] rfl ?_
    exact (q_X2_mayHurry_99 hf).2 X g K ok nmx lev hK en
def b_X2_mayHurry_85 (s0 : Int32) (h : AH) : Option (Int32 × AH) :=
  ok_z s0 h
set_option maxHeartbeats 4000000 in
set_option maxRecDepth 100000 in
theorem q_X2_mayHurry_85 {s0 : Int32} {h hE : AH} {v : Int32} (hf : b_X2_mayHurry_85 s0 h = some (v, hE)) : JD cX2_mayHurry 4 RX2 "mayHurry" (some .boolean) (3) 85 [] [.inl (s0)] h hE (some (.inl (v))) := by
  unfold b_X2_mayHurry_85 at hf
  have mE : hp_n h ≤ hp_n hE ∧ hp_s h ≤ hp_s hE := by obtain ⟨-, q⟩ := of_if hf; cases q; exact ⟨Nat.le_refl _, Nat.le_refl _⟩
  refine ⟨by omega, fun X g K ok nmx lev hK en => ?_⟩
  exact tj_zreturn ok hf en dX2_mayHurry_85
def b_X2_mayHurry_80  (h : AH) : Option (Int32 × AH) :=
  b_X2_mayHurry_85 (1 : Int32) h
set_option maxHeartbeats 4000000 in
set_option maxRecDepth 100000 in
theorem q_X2_mayHurry_80 {h hE : AH} {v : Int32} (hf : b_X2_mayHurry_80  h = some (v, hE)) : JD cX2_mayHurry 4 RX2 "mayHurry" (some .boolean) (3) 80 [] [] h hE (some (.inl (v))) := by
  unfold b_X2_mayHurry_80 at hf
  have J := q_X2_mayHurry_85 hf
  have mE := J.1
  refine ⟨by omega, fun X g K ok nmx lev hK en => ?_⟩
  refine tj_iconst (v := 1) ok dX2_mayHurry_80 (by decide) ?_
  refine tj_goto (tgt := 85) ok dX2_mayHurry_81 (by decide) ?_
  exact J.2 X g K ok nmx lev hK en
def b_X2_mayHurry_84  (h : AH) : Option (Int32 × AH) :=
  b_X2_mayHurry_85 (0 : Int32) h
set_option maxHeartbeats 4000000 in
set_option maxRecDepth 100000 in
theorem q_X2_mayHurry_84 {h hE : AH} {v : Int32} (hf : b_X2_mayHurry_84  h = some (v, hE)) : JD cX2_mayHurry 4 RX2 "mayHurry" (some .boolean) (3) 84 [] [] h hE (some (.inl (v))) := by
  unfold b_X2_mayHurry_84 at hf
  have J := q_X2_mayHurry_85 hf
  have mE := J.1
  refine ⟨by omega, fun X g K ok nmx lev hK en => ?_⟩
  refine tj_iconst (v := 0) ok dX2_mayHurry_84 (by decide) ?_
  exact J.2 X g K ok nmx lev hK en
def b_X2_mayHurry_64 (a0 : Nat) (a3 : Int32) (h : AH) : Option (Int32 × AH) :=
  (g_r h a0 2 7).bind fun x1 => (g_r h x1 0 4).bind fun x2 => (l_i h x2 a3).bind fun x3 => (ok_v h a0 2).bind fun x4 => (f_X2_isVolatile a0 x3 h).bind fun q5 => if q5.1 = 0 then b_X2_mayHurry_80 q5.2 else b_X2_mayHurry_84 q5.2
set_option maxHeartbeats 4000000 in
set_option maxRecDepth 100000 in
theorem q_X2_mayHurry_64 {a0 : Nat} {a3 : Int32} {h hE : AH} {v : Int32} (hf : b_X2_mayHurry_64 a0 a3 h = some (v, hE)) : JD cX2_mayHurry 4 RX2 "mayHurry" (some .boolean) (3) 64 [(0, .inr (.inr (a0))), (3, .inl (a3))] [] h hE (some (.inl (v))) := by
  unfold b_X2_mayHurry_64 at hf
  obtain ⟨x1, e1, hf⟩ := bnd hf
  obtain ⟨x2, e2, hf⟩ := bnd hf
  obtain ⟨x3, e3, hf⟩ := bnd hf
  obtain ⟨x4, e4, hf⟩ := bnd hf
  obtain ⟨⟨x5, h5⟩, e5, hf⟩ := bnd hf
  try dsimp only at hf
  have k5 := c_X2_isVolatile e5
  have m5 := (k5 default_g).1
  have mE : hp_n h5 ≤ hp_n hE ∧ hp_s h5 ≤ hp_s hE := by
    by_cases hc : x5 = 0
    · rw [if_pos hc] at hf; exact (q_X2_mayHurry_80 hf).1
    · rw [if_neg hc] at hf; exact (q_X2_mayHurry_84 hf).1
  refine ⟨by omega, fun X g K ok nmx lev hK en => ?_⟩
  refine tj_aload_n ok 0 dX2_mayHurry_64 rfl rfl ?_
  refine tj_aload_n ok 0 dX2_mayHurry_65 rfl rfl ?_
  refine tj_getR (k := 7) ok fcX2 (by decide) wm_154 rfl (Or.inl ⟨_, rfl⟩) dX2_mayHurry_66 e1 ?_
  refine tj_getR (k := 4) ok fcX0 (by decide) wm_301 rfl (Or.inr ⟨_, rfl⟩) dX2_mayHurry_69 e2 ?_
  refine tj_iload_n ok 1 dX2_mayHurry_72 rfl rfl ?_
  refine tj_iaload ok dX2_mayHurry_73 e3 ?_
  refine tj_callV (rest := ([] : List TV).map (vl g)) (as := [.inl (x3)]) ok lev (by omega) fcX2.1 (by decide) rfl (of_if e4).1 (k5 g) (CaX.of en (by omega)) kn_X2_isVolatile wm_295 wm_296 wm_297 (rs_ok (Nat.le_of_ble_eq_true rfl)) rfl rfl dX2_mayHurry_74 ?_
  refine tj_if_ne (tgt := 84) ok dX2_mayHurry_77 (by decide) (fun hc => ?_) (fun hc => ?_)
  · rw [if_neg hc] at hf
    refine tj_sub (lv' := []) [] rfl ?_
    exact (q_X2_mayHurry_84 hf).2 X g K ok nmx lev hK en
  · rw [if_pos hc] at hf
    refine tj_sub (lv' := []) [] rfl ?_
    exact (q_X2_mayHurry_80 hf).2 X g K ok nmx lev hK en
def b_X2_mayHurry_56 (a0 : Nat) (a3 : Int32) (h : AH) : Option (Int32 × AH) :=
  (g_i h a0 2 3).bind fun x1 => if x1 = (2 : Int32) then b_X2_mayHurry_64 a0 a3 h else b_X2_mayHurry_84 h
set_option maxHeartbeats 4000000 in
set_option maxRecDepth 100000 in
theorem q_X2_mayHurry_56 {a0 : Nat} {a3 : Int32} {h hE : AH} {v : Int32} (hf : b_X2_mayHurry_56 a0 a3 h = some (v, hE)) : JD cX2_mayHurry 4 RX2 "mayHurry" (some .boolean) (3) 56 [(0, .inr (.inr (a0))), (3, .inl (a3))] [] h hE (some (.inl (v))) := by
  unfold b_X2_mayHurry_56 at hf
  obtain ⟨x1, e1, hf⟩ := bnd hf
  have mE : hp_n h ≤ hp_n hE ∧ hp_s h ≤ hp_s hE := by
    by_cases hc : x1 = (2 : Int32)
    · rw [if_pos hc] at hf; exact (q_X2_mayHurry_64 hf).1
    · rw [if_neg hc] at hf; exact (q_X2_mayHurry_84 hf).1
  refine ⟨by omega, fun X g K ok nmx lev hK en => ?_⟩
  refine tj_aload_n ok 0 dX2_mayHurry_56 rfl rfl ?_
  refine tj_getI (k := 3) ok fcX2 (by decide) wm_147 rfl (Or.inl rfl) dX2_mayHurry_57 e1 ?_
  refine tj_iconst (v := 2) ok dX2_mayHurry_60 (by decide) ?_
  refine tj_icmp_ne (tgt := 84) ok dX2_mayHurry_61 (by decide) (fun hc => ?_) (fun hc => ?_)
  · rw [if_neg hc] at hf
    refine tj_sub (lv' := []) [] rfl ?_
    exact (q_X2_mayHurry_84 hf).2 X g K ok nmx lev hK en
  · rw [if_pos hc] at hf
    exact (q_X2_mayHurry_64 hf).2 X g K ok nmx lev hK en
def b_X2_mayHurry_48 (a0 : Nat) (a3 : Int32) (h : AH) : Option (Int32 × AH) :=
  (g_i h a0 2 3).bind fun x1 => if x1 = (1 : Int32) then b_X2_mayHurry_80 h else b_X2_mayHurry_56 a0 a3 h
set_option maxHeartbeats 4000000 in
set_option maxRecDepth 100000 in
theorem q_X2_mayHurry_48 {a0 : Nat} {a3 : Int32} {h hE : AH} {v : Int32} (hf : b_X2_mayHurry_48 a0 a3 h = some (v, hE)) : JD cX2_mayHurry 4 RX2 "mayHurry" (some .boolean) (3) 48 [(0, .inr (.inr (a0))), (3, .inl (a3))] [] h hE (some (.inl (v))) := by
  unfold b_X2_mayHurry_48 at hf
  obtain ⟨x1, e1, hf⟩ := bnd hf
  have mE : hp_n h ≤ hp_n hE ∧ hp_s h ≤ hp_s hE := by
    by_cases hc : x1 = (1 : Int32)
    · rw [if_pos hc] at hf; exact (q_X2_mayHurry_80 hf).1
    · rw [if_neg hc] at hf; exact (q_X2_mayHurry_56 hf).1
  refine ⟨by omega, fun X g K ok nmx lev hK en => ?_⟩
  refine tj_aload_n ok 0 dX2_mayHurry_48 rfl rfl ?_
  refine tj_getI (k := 3) ok fcX2 (by decide) wm_147 rfl (Or.inl rfl) dX2_mayHurry_49 e1 ?_
  refine tj_iconst (v := 1) ok dX2_mayHurry_52 (by decide) ?_
  refine tj_icmp_eq (tgt := 80) ok dX2_mayHurry_53 (by decide) (fun hc => ?_) (fun hc => ?_)
  · rw [if_pos hc] at hf
    refine tj_sub (lv' := []) [] rfl ?_
    exact (q_X2_mayHurry_80 hf).2 X g K ok nmx lev hK en
  · rw [if_neg hc] at hf
    exact (q_X2_mayHurry_56 hf).2 X g K ok nmx lev hK en
def b_X2_mayHurry_19 (a0 : Nat) (a2 : Int32) (h : AH) : Option (Int32 × AH) :=
  (g_r h a0 2 7).bind fun x1 => (g_r h x1 0 8).bind fun x2 => (l_i h x2 (a2 &&& (7 : Int32))).bind fun x3 => (g_r h a0 2 7).bind fun x4 => (g_r h x4 0 0).bind fun x5 => (l_i h x5 (x3 &&& (63 : Int32))).bind fun x6 => if x6 = (1 : Int32) then b_X2_mayHurry_48 a0 (x3 &&& (63 : Int32)) h else b_X2_mayHurry_86 a0 (x3 &&& (63 : Int32)) h
set_option maxHeartbeats 4000000 in
set_option maxRecDepth 100000 in
theorem q_X2_mayHurry_19 {a0 : Nat} {a2 : Int32} {h hE : AH} {v : Int32} (hf : b_X2_mayHurry_19 a0 a2 h = some (v, hE)) : JD cX2_mayHurry 4 RX2 "mayHurry" (some .boolean) (3) 19 [(0, .inr (.inr (a0))), (2, .inl (a2))] [] h hE (some (.inl (v))) := by
  unfold b_X2_mayHurry_19 at hf
  obtain ⟨x1, e1, hf⟩ := bnd hf
  obtain ⟨x2, e2, hf⟩ := bnd hf
  obtain ⟨x3, e3, hf⟩ := bnd hf
  obtain ⟨x4, e4, hf⟩ := bnd hf
  obtain ⟨x5, e5, hf⟩ := bnd hf
  obtain ⟨x6, e6, hf⟩ := bnd hf
  have mE : hp_n h ≤ hp_n hE ∧ hp_s h ≤ hp_s hE := by
    by_cases hc : x6 = (1 : Int32)
    · rw [if_pos hc] at hf; exact (q_X2_mayHurry_48 hf).1
    · rw [if_neg hc] at hf; exact (q_X2_mayHurry_86 hf).1
  refine ⟨by omega, fun X g K ok nmx lev hK en => ?_⟩
  refine tj_aload_n ok 0 dX2_mayHurry_19 rfl rfl ?_
  refine tj_getR (k := 7) ok fcX2 (by decide) wm_154 rfl (Or.inl ⟨_, rfl⟩) dX2_mayHurry_20 e1 ?_
  refine tj_getR (k := 8) ok fcX0 (by decide) wm_340 rfl (Or.inr ⟨_, rfl⟩) dX2_mayHurry_23 e2 ?_
  refine tj_iload_n ok 1 dX2_mayHurry_26 rfl rfl ?_
  refine tj_bipush (v := 7) ok dX2_mayHurry_27 (by decide) ?_
  refine tj_iand ok dX2_mayHurry_29 ?_
  refine tj_iaload ok dX2_mayHurry_30 e3 ?_
  refine tj_bipush (v := 63) ok dX2_mayHurry_31 (by decide) ?_
  refine tj_iand ok dX2_mayHurry_33 ?_
  refine tj_istore_n (lv' := [(0, .inr (.inr (a0))), (2, .inl (a2)), (3, .inl (x3 &&& (63 : Int32)))]) ok dX2_mayHurry_34 rfl (by decide) rfl ?_
  refine tj_aload_n ok 0 dX2_mayHurry_35 rfl rfl ?_
  refine tj_getR (k := 7) ok fcX2 (by decide) wm_154 rfl (Or.inl ⟨_, rfl⟩) dX2_mayHurry_36 e4 ?_
  refine tj_getR (k := 0) ok fcX0 (by decide) wm_253 rfl (Or.inr ⟨_, rfl⟩) dX2_mayHurry_39 e5 ?_
  refine tj_iload_n ok 2 dX2_mayHurry_42 rfl rfl ?_
  refine tj_iaload ok dX2_mayHurry_43 e6 ?_
  refine tj_iconst (v := 1) ok dX2_mayHurry_44 (by decide) ?_
  refine tj_icmp_ne (tgt := 86) ok dX2_mayHurry_45 (by decide) (fun hc => ?_) (fun hc => ?_)
  · rw [if_neg hc] at hf
    refine tj_sub (lv' := [(0, .inr (.inr (a0))), (3, .inl (x3 &&& (63 : Int32)))]) [0, 2] rfl ?_
    exact (q_X2_mayHurry_86 hf).2 X g K ok nmx lev hK en
  · rw [if_pos hc] at hf
    refine tj_sub (lv' := [(0, .inr (.inr (a0))), (3, .inl (x3 &&& (63 : Int32)))]) [0, 2] rfl ?_
    exact (q_X2_mayHurry_48 hf).2 X g K ok nmx lev hK en
def b_X2_mayHurry_17  (h : AH) : Option (Int32 × AH) :=
  ok_z (0 : Int32) h
set_option maxHeartbeats 4000000 in
set_option maxRecDepth 100000 in
theorem q_X2_mayHurry_17 {h hE : AH} {v : Int32} (hf : b_X2_mayHurry_17  h = some (v, hE)) : JD cX2_mayHurry 4 RX2 "mayHurry" (some .boolean) (3) 17 [] [] h hE (some (.inl (v))) := by
  unfold b_X2_mayHurry_17 at hf
  have mE : hp_n h ≤ hp_n hE ∧ hp_s h ≤ hp_s hE := by obtain ⟨-, q⟩ := of_if hf; cases q; exact ⟨Nat.le_refl _, Nat.le_refl _⟩
  refine ⟨by omega, fun X g K ok nmx lev hK en => ?_⟩
  refine tj_iconst (v := 0) ok dX2_mayHurry_17 (by decide) ?_
  exact tj_zreturn ok hf en dX2_mayHurry_18
def b_X2_mayHurry_0 (a0 : Nat) (a1 : Int32) (h : AH) : Option (Int32 × AH) :=
  (ok_v h a0 2).bind fun x1 => (f_X2_nextOf a0 a1 h).bind fun q2 => (g_r q2.2 a0 2 7).bind fun x3 => (g_i q2.2 x3 0 12).bind fun x4 => if q2.1 < x4 then b_X2_mayHurry_19 a0 q2.1 q2.2 else b_X2_mayHurry_17 q2.2
set_option maxHeartbeats 4000000 in
set_option maxRecDepth 100000 in
theorem q_X2_mayHurry_0 {a0 : Nat} {a1 : Int32} {h hE : AH} {v : Int32} (hf : b_X2_mayHurry_0 a0 a1 h = some (v, hE)) : JD cX2_mayHurry 4 RX2 "mayHurry" (some .boolean) (3) 0 [(0, .inr (.inr (a0))), (1, .inl (a1))] [] h hE (some (.inl (v))) := by
  unfold b_X2_mayHurry_0 at hf
  obtain ⟨x1, e1, hf⟩ := bnd hf
  obtain ⟨⟨x2, h2⟩, e2, hf⟩ := bnd hf
  try dsimp only at hf
  have k2 := c_X2_nextOf e2
  have m2 := (k2 default_g).1
  obtain ⟨x3, e3, hf⟩ := bnd hf
  obtain ⟨x4, e4, hf⟩ := bnd hf
  have mE : hp_n h2 ≤ hp_n hE ∧ hp_s h2 ≤ hp_s hE := by
    by_cases hc : x2 < x4
    · rw [if_pos hc] at hf; exact (q_X2_mayHurry_19 hf).1
    · rw [if_neg hc] at hf; exact (q_X2_mayHurry_17 hf).1
  refine ⟨by omega, fun X g K ok nmx lev hK en => ?_⟩
  refine tj_aload_n ok 0 dX2_mayHurry_0 rfl rfl ?_
  refine tj_iload_n ok 1 dX2_mayHurry_1 rfl rfl ?_
  refine tj_callV (rest := ([] : List TV).map (vl g)) (as := [.inl (a1)]) ok lev (by omega) fcX2.1 (by decide) rfl (of_if e1).1 (k2 g) (CaX.of en (by omega)) kn_X2_nextOf wm_337 wm_338 wm_339 (rs_ok (Nat.le_of_ble_eq_true rfl)) rfl rfl dX2_mayHurry_2 ?_
  refine tj_istore_n (lv' := [(0, .inr (.inr (a0))), (1, .inl (a1)), (2, .inl (x2))]) ok dX2_mayHurry_5 rfl (by decide) rfl ?_
  refine tj_iload_n ok 2 dX2_mayHurry_6 rfl rfl ?_
  refine tj_aload_n ok 0 dX2_mayHurry_7 rfl rfl ?_
  refine tj_getR (k := 7) ok fcX2 (by decide) wm_154 rfl (Or.inl ⟨_, rfl⟩) dX2_mayHurry_8 e3 ?_
  refine tj_getI (k := 12) ok fcX0 (by decide) wm_269 rfl (Or.inl rfl) dX2_mayHurry_11 e4 ?_
  refine tj_icmp_lt (tgt := 19) ok dX2_mayHurry_14 (by decide) (fun hc => ?_) (fun hc => ?_)
  · rw [if_pos hc] at hf
    refine tj_sub (lv' := [(0, .inr (.inr (a0))), (2, .inl (x2))]) [0, 2] rfl ?_
    exact (q_X2_mayHurry_19 hf).2 X g K ok nmx lev hK en
  · rw [if_neg hc] at hf
    refine tj_sub (lv' := []) [] rfl ?_
    exact (q_X2_mayHurry_17 hf).2 X g K ok nmx lev hK en
def f_X2_mayHurry (a0 : Nat) (a1 : Int32) (h : AH) : Option (Int32 × AH) := b_X2_mayHurry_0  a0 a1 h
theorem c_X2_mayHurry {a0 : Nat} {a1 : Int32} {h hE : AH} {v : Int32} (hf : f_X2_mayHurry a0 a1 h = some (v, hE)) : ∀ g : GT, CM g (3) yX2_mayHurry cX2_mayHurry 4 (some .boolean) h [.inr (.inr (a0)), .inl (a1)] hE (some (.inl (v))) :=
  CM.ofJ (by decide) (by show _ ≤ 4; exact Nat.le_of_ble_eq_true rfl) (q_X2_mayHurry_0 hf)
