theorem dX1_init_0 : decode cX1_init 0 = .ok (.aload_n 0, 1) := by decide +kernel
theorem dX1_init_1 : decode cX1_init 1 = .ok (.invokespecial 3, 3) := by decide +kernel
theorem dX1_init_4 : decode cX1_init 4 = .ok (.aload_n 0, 1) := by decide +kernel
theorem dX1_init_5 : decode cX1_init 5 = .ok (.bipush 16, 2) := by decide +kernel
theorem dX1_init_7 : decode cX1_init 7 = .ok (.newarray .int, 2) := by decide +kernel
theorem dX1_init_9 : decode cX1_init 9 = .ok (.putfield 11, 3) := by decide +kernel
theorem dX1_init_12 : decode cX1_init 12 = .ok (.aload_n 0, 1) := by decide +kernel
theorem dX1_init_13 : decode cX1_init 13 = .ok (.bipush 16, 2) := by decide +kernel
theorem dX1_init_15 : decode cX1_init 15 = .ok (.newarray .int, 2) := by decide +kernel
theorem dX1_init_17 : decode cX1_init 17 = .ok (.putfield 15, 3) := by decide +kernel
theorem dX1_init_20 : decode cX1_init 20 = .ok (.return_, 1) := by decide +kernel
theorem dX1_nameFits_0 : decode cX1_nameFits 0 = .ok (.iload_n 2, 1) := by decide +kernel
theorem dX1_nameFits_1 : decode cX1_nameFits 1 = .ok (.iconst (-1), 1) := by decide +kernel
theorem dX1_nameFits_2 : decode cX1_nameFits 2 = .ok (.if_icmp .eq 8, 3) := by decide +kernel
theorem dX1_nameFits_5 : decode cX1_nameFits 5 = .ok (.iload_n 3, 1) := by decide +kernel
theorem dX1_nameFits_6 : decode cX1_nameFits 6 = .ok (.iconst (-1), 1) := by decide +kernel
theorem dX1_nameFits_7 : decode cX1_nameFits 7 = .ok (.if_icmp .ne 14, 3) := by decide +kernel
theorem dX1_nameFits_10 : decode cX1_nameFits 10 = .ok (.iload_n 2, 1) := by decide +kernel
theorem dX1_nameFits_11 : decode cX1_nameFits 11 = .ok (.iload_n 3, 1) := by decide +kernel
theorem dX1_nameFits_12 : decode cX1_nameFits 12 = .ok (.if_icmp .ne 7, 3) := by decide +kernel
theorem dX1_nameFits_15 : decode cX1_nameFits 15 = .ok (.iconst 1, 1) := by decide +kernel
theorem dX1_nameFits_16 : decode cX1_nameFits 16 = .ok (.goto 4, 3) := by decide +kernel
theorem dX1_nameFits_19 : decode cX1_nameFits 19 = .ok (.iconst 0, 1) := by decide +kernel
theorem dX1_nameFits_20 : decode cX1_nameFits 20 = .ok (.ireturn, 1) := by decide +kernel
theorem dX1_nameFits_21 : decode cX1_nameFits 21 = .ok (.iload_n 1, 1) := by decide +kernel
theorem dX1_nameFits_22 : decode cX1_nameFits 22 = .ok (.iload_n 2, 1) := by decide +kernel
theorem dX1_nameFits_23 : decode cX1_nameFits 23 = .ok (.iadd, 1) := by decide +kernel
theorem dX1_nameFits_24 : decode cX1_nameFits 24 = .ok (.bipush 15, 2) := by decide +kernel
theorem dX1_nameFits_26 : decode cX1_nameFits 26 = .ok (.iand, 1) := by decide +kernel
theorem dX1_nameFits_27 : decode cX1_nameFits 27 = .ok (.istore 4, 2) := by decide +kernel
theorem dX1_nameFits_29 : decode cX1_nameFits 29 = .ok (.iload_n 1, 1) := by decide +kernel
theorem dX1_nameFits_30 : decode cX1_nameFits 30 = .ok (.iload_n 3, 1) := by decide +kernel
theorem dX1_nameFits_31 : decode cX1_nameFits 31 = .ok (.iadd, 1) := by decide +kernel
theorem dX1_nameFits_32 : decode cX1_nameFits 32 = .ok (.bipush 15, 2) := by decide +kernel
theorem dX1_nameFits_34 : decode cX1_nameFits 34 = .ok (.iand, 1) := by decide +kernel
theorem dX1_nameFits_35 : decode cX1_nameFits 35 = .ok (.istore 5, 2) := by decide +kernel
theorem dX1_nameFits_37 : decode cX1_nameFits 37 = .ok (.aload_n 0, 1) := by decide +kernel
theorem dX1_nameFits_38 : decode cX1_nameFits 38 = .ok (.getfield 11, 3) := by decide +kernel
theorem dX1_nameFits_41 : decode cX1_nameFits 41 = .ok (.iload 4, 2) := by decide +kernel
theorem dX1_nameFits_43 : decode cX1_nameFits 43 = .ok (.iaload, 1) := by decide +kernel
theorem dX1_nameFits_44 : decode cX1_nameFits 44 = .ok (.iconst (-1), 1) := by decide +kernel
theorem dX1_nameFits_45 : decode cX1_nameFits 45 = .ok (.if_icmp .ne 32, 3) := by decide +kernel
theorem dX1_nameFits_48 : decode cX1_nameFits 48 = .ok (.aload_n 0, 1) := by decide +kernel
theorem dX1_nameFits_49 : decode cX1_nameFits 49 = .ok (.getfield 15, 3) := by decide +kernel
theorem dX1_nameFits_52 : decode cX1_nameFits 52 = .ok (.iload 5, 2) := by decide +kernel
theorem dX1_nameFits_54 : decode cX1_nameFits 54 = .ok (.iaload, 1) := by decide +kernel
theorem dX1_nameFits_55 : decode cX1_nameFits 55 = .ok (.iconst (-1), 1) := by decide +kernel
theorem dX1_nameFits_56 : decode cX1_nameFits 56 = .ok (.if_icmp .ne 21, 3) := by decide +kernel
theorem dX1_nameFits_59 : decode cX1_nameFits 59 = .ok (.aload_n 0, 1) := by decide +kernel
theorem dX1_nameFits_60 : decode cX1_nameFits 60 = .ok (.getfield 11, 3) := by decide +kernel
theorem dX1_nameFits_63 : decode cX1_nameFits 63 = .ok (.iload 4, 2) := by decide +kernel
theorem dX1_nameFits_65 : decode cX1_nameFits 65 = .ok (.iload 5, 2) := by decide +kernel
theorem dX1_nameFits_67 : decode cX1_nameFits 67 = .ok (.iastore, 1) := by decide +kernel
theorem dX1_nameFits_68 : decode cX1_nameFits 68 = .ok (.aload_n 0, 1) := by decide +kernel
theorem dX1_nameFits_69 : decode cX1_nameFits 69 = .ok (.getfield 15, 3) := by decide +kernel
theorem dX1_nameFits_72 : decode cX1_nameFits 72 = .ok (.iload 5, 2) := by decide +kernel
theorem dX1_nameFits_74 : decode cX1_nameFits 74 = .ok (.iload 4, 2) := by decide +kernel
theorem dX1_nameFits_76 : decode cX1_nameFits 76 = .ok (.iastore, 1) := by decide +kernel
theorem dX1_nameFits_77 : decode cX1_nameFits 77 = .ok (.aload_n 0, 1) := by decide +kernel
theorem dX1_nameFits_78 : decode cX1_nameFits 78 = .ok (.getfield 11, 3) := by decide +kernel
theorem dX1_nameFits_81 : decode cX1_nameFits 81 = .ok (.iload 4, 2) := by decide +kernel
theorem dX1_nameFits_83 : decode cX1_nameFits 83 = .ok (.iaload, 1) := by decide +kernel
theorem dX1_nameFits_84 : decode cX1_nameFits 84 = .ok (.iload 5, 2) := by decide +kernel
theorem dX1_nameFits_86 : decode cX1_nameFits 86 = .ok (.if_icmp .ne 7, 3) := by decide +kernel
theorem dX1_nameFits_89 : decode cX1_nameFits 89 = .ok (.iconst 1, 1) := by decide +kernel
theorem dX1_nameFits_90 : decode cX1_nameFits 90 = .ok (.goto 4, 3) := by decide +kernel
theorem dX1_nameFits_93 : decode cX1_nameFits 93 = .ok (.iconst 0, 1) := by decide +kernel
theorem dX1_nameFits_94 : decode cX1_nameFits 94 = .ok (.ireturn, 1) := by decide +kernel
theorem dX1_objectFits_0 : decode cX1_objectFits 0 = .ok (.aload_n 1, 1) := by decide +kernel
theorem dX1_objectFits_1 : decode cX1_objectFits 1 = .ok (.getfield 18, 3) := by decide +kernel
theorem dX1_objectFits_4 : decode cX1_objectFits 4 = .ok (.getfield 76, 3) := by decide +kernel
theorem dX1_objectFits_7 : decode cX1_objectFits 7 = .ok (.iload_n 3, 1) := by decide +kernel
theorem dX1_objectFits_8 : decode cX1_objectFits 8 = .ok (.iaload, 1) := by decide +kernel
theorem dX1_objectFits_9 : decode cX1_objectFits 9 = .ok (.istore 5, 2) := by decide +kernel
theorem dX1_objectFits_11 : decode cX1_objectFits 11 = .ok (.aload_n 2, 1) := by decide +kernel
theorem dX1_objectFits_12 : decode cX1_objectFits 12 = .ok (.getfield 18, 3) := by decide +kernel
theorem dX1_objectFits_15 : decode cX1_objectFits 15 = .ok (.getfield 76, 3) := by decide +kernel
theorem dX1_objectFits_18 : decode cX1_objectFits 18 = .ok (.iload 4, 2) := by decide +kernel
theorem dX1_objectFits_20 : decode cX1_objectFits 20 = .ok (.iaload, 1) := by decide +kernel
theorem dX1_objectFits_21 : decode cX1_objectFits 21 = .ok (.istore 6, 2) := by decide +kernel
theorem dX1_objectFits_23 : decode cX1_objectFits 23 = .ok (.aload_n 1, 1) := by decide +kernel
theorem dX1_objectFits_24 : decode cX1_objectFits 24 = .ok (.getfield 18, 3) := by decide +kernel
theorem dX1_objectFits_27 : decode cX1_objectFits 27 = .ok (.iload_n 3, 1) := by decide +kernel
theorem dX1_objectFits_28 : decode cX1_objectFits 28 = .ok (.invokevirtual 79, 3) := by decide +kernel
theorem dX1_objectFits_31 : decode cX1_objectFits 31 = .ok (.ifCond .ne 14, 3) := by decide +kernel
theorem dX1_objectFits_34 : decode cX1_objectFits 34 = .ok (.aload_n 0, 1) := by decide +kernel
theorem dX1_objectFits_35 : decode cX1_objectFits 35 = .ok (.bipush 13, 2) := by decide +kernel
theorem dX1_objectFits_37 : decode cX1_objectFits 37 = .ok (.iload 5, 2) := by decide +kernel
theorem dX1_objectFits_39 : decode cX1_objectFits 39 = .ok (.iload 6, 2) := by decide +kernel
theorem dX1_objectFits_41 : decode cX1_objectFits 41 = .ok (.invokevirtual 66, 3) := by decide +kernel
theorem dX1_objectFits_44 : decode cX1_objectFits 44 = .ok (.ireturn, 1) := by decide +kernel
theorem dX1_objectFits_45 : decode cX1_objectFits 45 = .ok (.aload_n 1, 1) := by decide +kernel
theorem dX1_objectFits_46 : decode cX1_objectFits 46 = .ok (.getfield 83, 3) := by decide +kernel
theorem dX1_objectFits_49 : decode cX1_objectFits 49 = .ok (.iload 5, 2) := by decide +kernel
theorem dX1_objectFits_51 : decode cX1_objectFits 51 = .ok (.bipush 7, 2) := by decide +kernel
theorem dX1_objectFits_53 : decode cX1_objectFits 53 = .ok (.iand, 1) := by decide +kernel
theorem dX1_objectFits_54 : decode cX1_objectFits 54 = .ok (.iaload, 1) := by decide +kernel
theorem dX1_objectFits_55 : decode cX1_objectFits 55 = .ok (.aload_n 2, 1) := by decide +kernel
theorem dX1_objectFits_56 : decode cX1_objectFits 56 = .ok (.getfield 83, 3) := by decide +kernel
theorem dX1_objectFits_59 : decode cX1_objectFits 59 = .ok (.iload 6, 2) := by decide +kernel
theorem dX1_objectFits_61 : decode cX1_objectFits 61 = .ok (.bipush 7, 2) := by decide +kernel
theorem dX1_objectFits_63 : decode cX1_objectFits 63 = .ok (.iand, 1) := by decide +kernel
theorem dX1_objectFits_64 : decode cX1_objectFits 64 = .ok (.iaload, 1) := by decide +kernel
theorem dX1_objectFits_65 : decode cX1_objectFits 65 = .ok (.if_icmp .ne 19, 3) := by decide +kernel
theorem dX1_objectFits_68 : decode cX1_objectFits 68 = .ok (.aload_n 0, 1) := by decide +kernel
theorem dX1_objectFits_69 : decode cX1_objectFits 69 = .ok (.iconst 0, 1) := by decide +kernel
theorem dX1_objectFits_70 : decode cX1_objectFits 70 = .ok (.iload 5, 2) := by decide +kernel
theorem dX1_objectFits_72 : decode cX1_objectFits 72 = .ok (.iload 6, 2) := by decide +kernel
theorem dX1_objectFits_74 : decode cX1_objectFits 74 = .ok (.invokevirtual 66, 3) := by decide +kernel
theorem dX1_objectFits_77 : decode cX1_objectFits 77 = .ok (.ifCond .eq 7, 3) := by decide +kernel
theorem dX1_objectFits_80 : decode cX1_objectFits 80 = .ok (.iconst 1, 1) := by decide +kernel
theorem dX1_objectFits_81 : decode cX1_objectFits 81 = .ok (.goto 4, 3) := by decide +kernel
theorem dX1_objectFits_84 : decode cX1_objectFits 84 = .ok (.iconst 0, 1) := by decide +kernel
theorem dX1_objectFits_85 : decode cX1_objectFits 85 = .ok (.ireturn, 1) := by decide +kernel
theorem dX1_entryFits_0 : decode cX1_entryFits 0 = .ok (.aload_n 1, 1) := by decide +kernel
theorem dX1_entryFits_1 : decode cX1_entryFits 1 = .ok (.getfield 18, 3) := by decide +kernel
theorem dX1_entryFits_4 : decode cX1_entryFits 4 = .ok (.astore 5, 2) := by decide +kernel
theorem dX1_entryFits_6 : decode cX1_entryFits 6 = .ok (.aload_n 2, 1) := by decide +kernel
theorem dX1_entryFits_7 : decode cX1_entryFits 7 = .ok (.getfield 18, 3) := by decide +kernel
theorem dX1_entryFits_10 : decode cX1_entryFits 10 = .ok (.astore 6, 2) := by decide +kernel
theorem dX1_entryFits_12 : decode cX1_entryFits 12 = .ok (.aload 5, 2) := by decide +kernel
theorem dX1_entryFits_14 : decode cX1_entryFits 14 = .ok (.getfield 57, 3) := by decide +kernel
theorem dX1_entryFits_17 : decode cX1_entryFits 17 = .ok (.iload_n 3, 1) := by decide +kernel
theorem dX1_entryFits_18 : decode cX1_entryFits 18 = .ok (.bipush 63, 2) := by decide +kernel
theorem dX1_entryFits_20 : decode cX1_entryFits 20 = .ok (.iand, 1) := by decide +kernel
theorem dX1_entryFits_21 : decode cX1_entryFits 21 = .ok (.iaload, 1) := by decide +kernel
theorem dX1_entryFits_22 : decode cX1_entryFits 22 = .ok (.aload 6, 2) := by decide +kernel
theorem dX1_entryFits_24 : decode cX1_entryFits 24 = .ok (.getfield 57, 3) := by decide +kernel
theorem dX1_entryFits_27 : decode cX1_entryFits 27 = .ok (.iload 4, 2) := by decide +kernel
theorem dX1_entryFits_29 : decode cX1_entryFits 29 = .ok (.bipush 63, 2) := by decide +kernel
theorem dX1_entryFits_31 : decode cX1_entryFits 31 = .ok (.iand, 1) := by decide +kernel
theorem dX1_entryFits_32 : decode cX1_entryFits 32 = .ok (.iaload, 1) := by decide +kernel
theorem dX1_entryFits_33 : decode cX1_entryFits 33 = .ok (.if_icmp .ne 109, 3) := by decide +kernel
theorem dX1_entryFits_36 : decode cX1_entryFits 36 = .ok (.aload 5, 2) := by decide +kernel
theorem dX1_entryFits_38 : decode cX1_entryFits 38 = .ok (.getfield 60, 3) := by decide +kernel
theorem dX1_entryFits_41 : decode cX1_entryFits 41 = .ok (.iload_n 3, 1) := by decide +kernel
theorem dX1_entryFits_42 : decode cX1_entryFits 42 = .ok (.bipush 63, 2) := by decide +kernel
theorem dX1_entryFits_44 : decode cX1_entryFits 44 = .ok (.iand, 1) := by decide +kernel
theorem dX1_entryFits_45 : decode cX1_entryFits 45 = .ok (.iaload, 1) := by decide +kernel
theorem dX1_entryFits_46 : decode cX1_entryFits 46 = .ok (.aload 6, 2) := by decide +kernel
theorem dX1_entryFits_48 : decode cX1_entryFits 48 = .ok (.getfield 60, 3) := by decide +kernel
theorem dX1_entryFits_51 : decode cX1_entryFits 51 = .ok (.iload 4, 2) := by decide +kernel
theorem dX1_entryFits_53 : decode cX1_entryFits 53 = .ok (.bipush 63, 2) := by decide +kernel
theorem dX1_entryFits_55 : decode cX1_entryFits 55 = .ok (.iand, 1) := by decide +kernel
theorem dX1_entryFits_56 : decode cX1_entryFits 56 = .ok (.iaload, 1) := by decide +kernel
theorem dX1_entryFits_57 : decode cX1_entryFits 57 = .ok (.if_icmp .ne 85, 3) := by decide +kernel
theorem dX1_entryFits_60 : decode cX1_entryFits 60 = .ok (.aload_n 0, 1) := by decide +kernel
theorem dX1_entryFits_61 : decode cX1_entryFits 61 = .ok (.bipush 8, 2) := by decide +kernel
theorem dX1_entryFits_63 : decode cX1_entryFits 63 = .ok (.aload 5, 2) := by decide +kernel
theorem dX1_entryFits_65 : decode cX1_entryFits 65 = .ok (.getfield 63, 3) := by decide +kernel
theorem dX1_entryFits_68 : decode cX1_entryFits 68 = .ok (.iload_n 3, 1) := by decide +kernel
theorem dX1_entryFits_69 : decode cX1_entryFits 69 = .ok (.bipush 63, 2) := by decide +kernel
theorem dX1_entryFits_71 : decode cX1_entryFits 71 = .ok (.iand, 1) := by decide +kernel
theorem dX1_entryFits_72 : decode cX1_entryFits 72 = .ok (.iaload, 1) := by decide +kernel
theorem dX1_entryFits_73 : decode cX1_entryFits 73 = .ok (.aload 6, 2) := by decide +kernel
theorem dX1_entryFits_75 : decode cX1_entryFits 75 = .ok (.getfield 63, 3) := by decide +kernel
theorem dX1_entryFits_78 : decode cX1_entryFits 78 = .ok (.iload 4, 2) := by decide +kernel
theorem dX1_entryFits_80 : decode cX1_entryFits 80 = .ok (.bipush 63, 2) := by decide +kernel
theorem dX1_entryFits_82 : decode cX1_entryFits 82 = .ok (.iand, 1) := by decide +kernel
theorem dX1_entryFits_83 : decode cX1_entryFits 83 = .ok (.iaload, 1) := by decide +kernel
theorem dX1_entryFits_84 : decode cX1_entryFits 84 = .ok (.invokevirtual 66, 3) := by decide +kernel
theorem dX1_entryFits_87 : decode cX1_entryFits 87 = .ok (.ifCond .eq 55, 3) := by decide +kernel
theorem dX1_entryFits_90 : decode cX1_entryFits 90 = .ok (.aload_n 0, 1) := by decide +kernel
theorem dX1_entryFits_91 : decode cX1_entryFits 91 = .ok (.bipush 8, 2) := by decide +kernel
theorem dX1_entryFits_93 : decode cX1_entryFits 93 = .ok (.aload 5, 2) := by decide +kernel
theorem dX1_entryFits_95 : decode cX1_entryFits 95 = .ok (.getfield 70, 3) := by decide +kernel
theorem dX1_entryFits_98 : decode cX1_entryFits 98 = .ok (.iload_n 3, 1) := by decide +kernel
theorem dX1_entryFits_99 : decode cX1_entryFits 99 = .ok (.bipush 63, 2) := by decide +kernel
theorem dX1_entryFits_101 : decode cX1_entryFits 101 = .ok (.iand, 1) := by decide +kernel
theorem dX1_entryFits_102 : decode cX1_entryFits 102 = .ok (.iaload, 1) := by decide +kernel
theorem dX1_entryFits_103 : decode cX1_entryFits 103 = .ok (.aload 6, 2) := by decide +kernel
theorem dX1_entryFits_105 : decode cX1_entryFits 105 = .ok (.getfield 70, 3) := by decide +kernel
theorem dX1_entryFits_108 : decode cX1_entryFits 108 = .ok (.iload 4, 2) := by decide +kernel
theorem dX1_entryFits_110 : decode cX1_entryFits 110 = .ok (.bipush 63, 2) := by decide +kernel
theorem dX1_entryFits_112 : decode cX1_entryFits 112 = .ok (.iand, 1) := by decide +kernel
theorem dX1_entryFits_113 : decode cX1_entryFits 113 = .ok (.iaload, 1) := by decide +kernel
theorem dX1_entryFits_114 : decode cX1_entryFits 114 = .ok (.invokevirtual 66, 3) := by decide +kernel
theorem dX1_entryFits_117 : decode cX1_entryFits 117 = .ok (.ifCond .eq 25, 3) := by decide +kernel
theorem dX1_entryFits_120 : decode cX1_entryFits 120 = .ok (.aload_n 0, 1) := by decide +kernel
theorem dX1_entryFits_121 : decode cX1_entryFits 121 = .ok (.aload_n 1, 1) := by decide +kernel
theorem dX1_entryFits_122 : decode cX1_entryFits 122 = .ok (.aload_n 2, 1) := by decide +kernel
theorem dX1_entryFits_123 : decode cX1_entryFits 123 = .ok (.iload_n 3, 1) := by decide +kernel
theorem dX1_entryFits_124 : decode cX1_entryFits 124 = .ok (.bipush 63, 2) := by decide +kernel
theorem dX1_entryFits_126 : decode cX1_entryFits 126 = .ok (.iand, 1) := by decide +kernel
theorem dX1_entryFits_127 : decode cX1_entryFits 127 = .ok (.iload 4, 2) := by decide +kernel
theorem dX1_entryFits_129 : decode cX1_entryFits 129 = .ok (.bipush 63, 2) := by decide +kernel
theorem dX1_entryFits_131 : decode cX1_entryFits 131 = .ok (.iand, 1) := by decide +kernel
theorem dX1_entryFits_132 : decode cX1_entryFits 132 = .ok (.invokevirtual 73, 3) := by decide +kernel
theorem dX1_entryFits_135 : decode cX1_entryFits 135 = .ok (.ifCond .eq 7, 3) := by decide +kernel
theorem dX1_entryFits_138 : decode cX1_entryFits 138 = .ok (.iconst 1, 1) := by decide +kernel
theorem dX1_entryFits_139 : decode cX1_entryFits 139 = .ok (.goto 4, 3) := by decide +kernel
theorem dX1_entryFits_142 : decode cX1_entryFits 142 = .ok (.iconst 0, 1) := by decide +kernel
theorem dX1_entryFits_143 : decode cX1_entryFits 143 = .ok (.ireturn, 1) := by decide +kernel
theorem dX1_threadFits_0 : decode cX1_threadFits 0 = .ok (.iconst 0, 1) := by decide +kernel
theorem dX1_threadFits_1 : decode cX1_threadFits 1 = .ok (.istore 5, 2) := by decide +kernel
theorem dX1_threadFits_3 : decode cX1_threadFits 3 = .ok (.iload 5, 2) := by decide +kernel
theorem dX1_threadFits_5 : decode cX1_threadFits 5 = .ok (.bipush 64, 2) := by decide +kernel
theorem dX1_threadFits_7 : decode cX1_threadFits 7 = .ok (.if_icmp .ge 60, 3) := by decide +kernel
theorem dX1_threadFits_10 : decode cX1_threadFits 10 = .ok (.iload_n 3, 1) := by decide +kernel
theorem dX1_threadFits_11 : decode cX1_threadFits 11 = .ok (.iload 5, 2) := by decide +kernel
theorem dX1_threadFits_13 : decode cX1_threadFits 13 = .ok (.iadd, 1) := by decide +kernel
theorem dX1_threadFits_14 : decode cX1_threadFits 14 = .ok (.bipush 63, 2) := by decide +kernel
theorem dX1_threadFits_16 : decode cX1_threadFits 16 = .ok (.iand, 1) := by decide +kernel
theorem dX1_threadFits_17 : decode cX1_threadFits 17 = .ok (.istore 6, 2) := by decide +kernel
theorem dX1_threadFits_19 : decode cX1_threadFits 19 = .ok (.iload 4, 2) := by decide +kernel
theorem dX1_threadFits_21 : decode cX1_threadFits 21 = .ok (.iload 5, 2) := by decide +kernel
theorem dX1_threadFits_23 : decode cX1_threadFits 23 = .ok (.iadd, 1) := by decide +kernel
theorem dX1_threadFits_24 : decode cX1_threadFits 24 = .ok (.bipush 63, 2) := by decide +kernel
theorem dX1_threadFits_26 : decode cX1_threadFits 26 = .ok (.iand, 1) := by decide +kernel
theorem dX1_threadFits_27 : decode cX1_threadFits 27 = .ok (.istore 7, 2) := by decide +kernel
theorem dX1_threadFits_29 : decode cX1_threadFits 29 = .ok (.aload_n 0, 1) := by decide +kernel
theorem dX1_threadFits_30 : decode cX1_threadFits 30 = .ok (.aload_n 1, 1) := by decide +kernel
theorem dX1_threadFits_31 : decode cX1_threadFits 31 = .ok (.aload_n 2, 1) := by decide +kernel
theorem dX1_threadFits_32 : decode cX1_threadFits 32 = .ok (.iload 6, 2) := by decide +kernel
theorem dX1_threadFits_34 : decode cX1_threadFits 34 = .ok (.iload 7, 2) := by decide +kernel
theorem dX1_threadFits_36 : decode cX1_threadFits 36 = .ok (.invokevirtual 54, 3) := by decide +kernel
theorem dX1_threadFits_39 : decode cX1_threadFits 39 = .ok (.ifCond .ne 5, 3) := by decide +kernel
theorem dX1_threadFits_42 : decode cX1_threadFits 42 = .ok (.iconst 0, 1) := by decide +kernel
theorem dX1_threadFits_43 : decode cX1_threadFits 43 = .ok (.ireturn, 1) := by decide +kernel
theorem dX1_threadFits_44 : decode cX1_threadFits 44 = .ok (.aload_n 1, 1) := by decide +kernel
theorem dX1_threadFits_45 : decode cX1_threadFits 45 = .ok (.getfield 18, 3) := by decide +kernel
theorem dX1_threadFits_48 : decode cX1_threadFits 48 = .ok (.getfield 57, 3) := by decide +kernel
theorem dX1_threadFits_51 : decode cX1_threadFits 51 = .ok (.iload 6, 2) := by decide +kernel
theorem dX1_threadFits_53 : decode cX1_threadFits 53 = .ok (.iaload, 1) := by decide +kernel
theorem dX1_threadFits_54 : decode cX1_threadFits 54 = .ok (.bipush 10, 2) := by decide +kernel
theorem dX1_threadFits_56 : decode cX1_threadFits 56 = .ok (.if_icmp .ne 5, 3) := by decide +kernel
theorem dX1_threadFits_59 : decode cX1_threadFits 59 = .ok (.iconst 1, 1) := by decide +kernel
theorem dX1_threadFits_60 : decode cX1_threadFits 60 = .ok (.ireturn, 1) := by decide +kernel
theorem dX1_threadFits_61 : decode cX1_threadFits 61 = .ok (.iinc 5 1, 3) := by decide +kernel
theorem dX1_threadFits_64 : decode cX1_threadFits 64 = .ok (.goto (-61), 3) := by decide +kernel
theorem dX1_threadFits_67 : decode cX1_threadFits 67 = .ok (.iconst 0, 1) := by decide +kernel
theorem dX1_threadFits_68 : decode cX1_threadFits 68 = .ok (.ireturn, 1) := by decide +kernel
theorem dX1_fits_0 : decode cX1_fits 0 = .ok (.aload_n 0, 1) := by decide +kernel
theorem dX1_fits_1 : decode cX1_fits 1 = .ok (.getfield 11, 3) := by decide +kernel
theorem dX1_fits_4 : decode cX1_fits 4 = .ok (.iconst (-1), 1) := by decide +kernel
theorem dX1_fits_5 : decode cX1_fits 5 = .ok (.invokestatic 41, 3) := by decide +kernel
theorem dX1_fits_8 : decode cX1_fits 8 = .ok (.aload_n 0, 1) := by decide +kernel
theorem dX1_fits_9 : decode cX1_fits 9 = .ok (.getfield 15, 3) := by decide +kernel
theorem dX1_fits_12 : decode cX1_fits 12 = .ok (.iconst (-1), 1) := by decide +kernel
theorem dX1_fits_13 : decode cX1_fits 13 = .ok (.invokestatic 41, 3) := by decide +kernel
theorem dX1_fits_16 : decode cX1_fits 16 = .ok (.iconst 0, 1) := by decide +kernel
theorem dX1_fits_17 : decode cX1_fits 17 = .ok (.istore 4, 2) := by decide +kernel
theorem dX1_fits_19 : decode cX1_fits 19 = .ok (.iload 4, 2) := by decide +kernel
theorem dX1_fits_21 : decode cX1_fits 21 = .ok (.aload_n 1, 1) := by decide +kernel
theorem dX1_fits_22 : decode cX1_fits 22 = .ok (.getfield 18, 3) := by decide +kernel
theorem dX1_fits_25 : decode cX1_fits 25 = .ok (.getfield 24, 3) := by decide +kernel
theorem dX1_fits_28 : decode cX1_fits 28 = .ok (.if_icmp .ge 60, 3) := by decide +kernel
theorem dX1_fits_31 : decode cX1_fits 31 = .ok (.iload 4, 2) := by decide +kernel
theorem dX1_fits_33 : decode cX1_fits 33 = .ok (.iconst 4, 1) := by decide +kernel
theorem dX1_fits_34 : decode cX1_fits 34 = .ok (.if_icmp .ge 54, 3) := by decide +kernel
theorem dX1_fits_37 : decode cX1_fits 37 = .ok (.aload_n 1, 1) := by decide +kernel
theorem dX1_fits_38 : decode cX1_fits 38 = .ok (.getfield 18, 3) := by decide +kernel
theorem dX1_fits_41 : decode cX1_fits 41 = .ok (.getfield 47, 3) := by decide +kernel
theorem dX1_fits_44 : decode cX1_fits 44 = .ok (.iload 4, 2) := by decide +kernel
theorem dX1_fits_46 : decode cX1_fits 46 = .ok (.iaload, 1) := by decide +kernel
theorem dX1_fits_47 : decode cX1_fits 47 = .ok (.istore 5, 2) := by decide +kernel
theorem dX1_fits_49 : decode cX1_fits 49 = .ok (.aload_n 2, 1) := by decide +kernel
theorem dX1_fits_50 : decode cX1_fits 50 = .ok (.getfield 18, 3) := by decide +kernel
theorem dX1_fits_53 : decode cX1_fits 53 = .ok (.getfield 47, 3) := by decide +kernel
theorem dX1_fits_56 : decode cX1_fits 56 = .ok (.iload_n 3, 1) := by decide +kernel
theorem dX1_fits_57 : decode cX1_fits 57 = .ok (.iconst 2, 1) := by decide +kernel
theorem dX1_fits_58 : decode cX1_fits 58 = .ok (.iload 4, 2) := by decide +kernel
theorem dX1_fits_60 : decode cX1_fits 60 = .ok (.imul, 1) := by decide +kernel
theorem dX1_fits_61 : decode cX1_fits 61 = .ok (.ishr, 1) := by decide +kernel
theorem dX1_fits_62 : decode cX1_fits 62 = .ok (.iconst 3, 1) := by decide +kernel
theorem dX1_fits_63 : decode cX1_fits 63 = .ok (.iand, 1) := by decide +kernel
theorem dX1_fits_64 : decode cX1_fits 64 = .ok (.iaload, 1) := by decide +kernel
theorem dX1_fits_65 : decode cX1_fits 65 = .ok (.istore 6, 2) := by decide +kernel
theorem dX1_fits_67 : decode cX1_fits 67 = .ok (.aload_n 0, 1) := by decide +kernel
theorem dX1_fits_68 : decode cX1_fits 68 = .ok (.aload_n 1, 1) := by decide +kernel
theorem dX1_fits_69 : decode cX1_fits 69 = .ok (.aload_n 2, 1) := by decide +kernel
theorem dX1_fits_70 : decode cX1_fits 70 = .ok (.iload 5, 2) := by decide +kernel
theorem dX1_fits_72 : decode cX1_fits 72 = .ok (.iload 6, 2) := by decide +kernel
theorem dX1_fits_74 : decode cX1_fits 74 = .ok (.invokevirtual 50, 3) := by decide +kernel
theorem dX1_fits_77 : decode cX1_fits 77 = .ok (.ifCond .ne 5, 3) := by decide +kernel
theorem dX1_fits_80 : decode cX1_fits 80 = .ok (.iconst 0, 1) := by decide +kernel
theorem dX1_fits_81 : decode cX1_fits 81 = .ok (.ireturn, 1) := by decide +kernel
theorem dX1_fits_82 : decode cX1_fits 82 = .ok (.iinc 4 1, 3) := by decide +kernel
theorem dX1_fits_85 : decode cX1_fits 85 = .ok (.goto (-66), 3) := by decide +kernel
theorem dX1_fits_88 : decode cX1_fits 88 = .ok (.iconst 1, 1) := by decide +kernel
theorem dX1_fits_89 : decode cX1_fits 89 = .ok (.ireturn, 1) := by decide +kernel
theorem dX1_takesEachThread_0 : decode cX1_takesEachThread 0 = .ok (.iconst 0, 1) := by decide +kernel
theorem dX1_takesEachThread_1 : decode cX1_takesEachThread 1 = .ok (.istore_n 2, 1) := by decide +kernel
theorem dX1_takesEachThread_2 : decode cX1_takesEachThread 2 = .ok (.iconst 0, 1) := by decide +kernel
theorem dX1_takesEachThread_3 : decode cX1_takesEachThread 3 = .ok (.istore_n 3, 1) := by decide +kernel
theorem dX1_takesEachThread_4 : decode cX1_takesEachThread 4 = .ok (.iload_n 3, 1) := by decide +kernel
theorem dX1_takesEachThread_5 : decode cX1_takesEachThread 5 = .ok (.iload_n 1, 1) := by decide +kernel
theorem dX1_takesEachThread_6 : decode cX1_takesEachThread 6 = .ok (.if_icmp .ge 21, 3) := by decide +kernel
theorem dX1_takesEachThread_9 : decode cX1_takesEachThread 9 = .ok (.iload_n 2, 1) := by decide +kernel
theorem dX1_takesEachThread_10 : decode cX1_takesEachThread 10 = .ok (.iconst 1, 1) := by decide +kernel
theorem dX1_takesEachThread_11 : decode cX1_takesEachThread 11 = .ok (.iload_n 0, 1) := by decide +kernel
theorem dX1_takesEachThread_12 : decode cX1_takesEachThread 12 = .ok (.iconst 2, 1) := by decide +kernel
theorem dX1_takesEachThread_13 : decode cX1_takesEachThread 13 = .ok (.iload_n 3, 1) := by decide +kernel
theorem dX1_takesEachThread_14 : decode cX1_takesEachThread 14 = .ok (.imul, 1) := by decide +kernel
theorem dX1_takesEachThread_15 : decode cX1_takesEachThread 15 = .ok (.ishr, 1) := by decide +kernel
theorem dX1_takesEachThread_16 : decode cX1_takesEachThread 16 = .ok (.iconst 3, 1) := by decide +kernel
theorem dX1_takesEachThread_17 : decode cX1_takesEachThread 17 = .ok (.iand, 1) := by decide +kernel
theorem dX1_takesEachThread_18 : decode cX1_takesEachThread 18 = .ok (.ishl, 1) := by decide +kernel
theorem dX1_takesEachThread_19 : decode cX1_takesEachThread 19 = .ok (.ior, 1) := by decide +kernel
theorem dX1_takesEachThread_20 : decode cX1_takesEachThread 20 = .ok (.istore_n 2, 1) := by decide +kernel
theorem dX1_takesEachThread_21 : decode cX1_takesEachThread 21 = .ok (.iinc 3 1, 3) := by decide +kernel
theorem dX1_takesEachThread_24 : decode cX1_takesEachThread 24 = .ok (.goto (-20), 3) := by decide +kernel
theorem dX1_takesEachThread_27 : decode cX1_takesEachThread 27 = .ok (.iload_n 2, 1) := by decide +kernel
theorem dX1_takesEachThread_28 : decode cX1_takesEachThread 28 = .ok (.iconst 1, 1) := by decide +kernel
theorem dX1_takesEachThread_29 : decode cX1_takesEachThread 29 = .ok (.iload_n 1, 1) := by decide +kernel
theorem dX1_takesEachThread_30 : decode cX1_takesEachThread 30 = .ok (.ishl, 1) := by decide +kernel
theorem dX1_takesEachThread_31 : decode cX1_takesEachThread 31 = .ok (.iconst 1, 1) := by decide +kernel
theorem dX1_takesEachThread_32 : decode cX1_takesEachThread 32 = .ok (.isub, 1) := by decide +kernel
theorem dX1_takesEachThread_33 : decode cX1_takesEachThread 33 = .ok (.if_icmp .ne 7, 3) := by decide +kernel
theorem dX1_takesEachThread_36 : decode cX1_takesEachThread 36 = .ok (.iconst 1, 1) := by decide +kernel
theorem dX1_takesEachThread_37 : decode cX1_takesEachThread 37 = .ok (.goto 4, 3) := by decide +kernel
theorem dX1_takesEachThread_40 : decode cX1_takesEachThread 40 = .ok (.iconst 0, 1) := by decide +kernel
theorem dX1_takesEachThread_41 : decode cX1_takesEachThread 41 = .ok (.ireturn, 1) := by decide +kernel
theorem dX1_holds_0 : decode cX1_holds 0 = .ok (.aload_n 1, 1) := by decide +kernel
theorem dX1_holds_1 : decode cX1_holds 1 = .ok (.getfield 18, 3) := by decide +kernel
theorem dX1_holds_4 : decode cX1_holds 4 = .ok (.getfield 24, 3) := by decide +kernel
theorem dX1_holds_7 : decode cX1_holds 7 = .ok (.istore_n 3, 1) := by decide +kernel
theorem dX1_holds_8 : decode cX1_holds 8 = .ok (.iload_n 3, 1) := by decide +kernel
theorem dX1_holds_9 : decode cX1_holds 9 = .ok (.aload_n 2, 1) := by decide +kernel
theorem dX1_holds_10 : decode cX1_holds 10 = .ok (.getfield 18, 3) := by decide +kernel
theorem dX1_holds_13 : decode cX1_holds 13 = .ok (.getfield 24, 3) := by decide +kernel
theorem dX1_holds_16 : decode cX1_holds 16 = .ok (.if_icmp .ne 20, 3) := by decide +kernel
theorem dX1_holds_19 : decode cX1_holds 19 = .ok (.aload_n 1, 1) := by decide +kernel
theorem dX1_holds_20 : decode cX1_holds 20 = .ok (.getfield 18, 3) := by decide +kernel
theorem dX1_holds_23 : decode cX1_holds 23 = .ok (.getfield 30, 3) := by decide +kernel
theorem dX1_holds_26 : decode cX1_holds 26 = .ok (.aload_n 2, 1) := by decide +kernel
theorem dX1_holds_27 : decode cX1_holds 27 = .ok (.getfield 18, 3) := by decide +kernel
theorem dX1_holds_30 : decode cX1_holds 30 = .ok (.getfield 30, 3) := by decide +kernel
theorem dX1_holds_33 : decode cX1_holds 33 = .ok (.if_icmp .eq 5, 3) := by decide +kernel
theorem dX1_holds_36 : decode cX1_holds 36 = .ok (.iconst 0, 1) := by decide +kernel
theorem dX1_holds_37 : decode cX1_holds 37 = .ok (.ireturn, 1) := by decide +kernel
theorem dX1_holds_38 : decode cX1_holds 38 = .ok (.iconst 0, 1) := by decide +kernel
theorem dX1_holds_39 : decode cX1_holds 39 = .ok (.istore 4, 2) := by decide +kernel
theorem dX1_holds_41 : decode cX1_holds 41 = .ok (.iload 4, 2) := by decide +kernel
theorem dX1_holds_43 : decode cX1_holds 43 = .ok (.iconst 1, 1) := by decide +kernel
theorem dX1_holds_44 : decode cX1_holds 44 = .ok (.iconst 2, 1) := by decide +kernel
theorem dX1_holds_45 : decode cX1_holds 45 = .ok (.iload_n 3, 1) := by decide +kernel
theorem dX1_holds_46 : decode cX1_holds 46 = .ok (.imul, 1) := by decide +kernel
theorem dX1_holds_47 : decode cX1_holds 47 = .ok (.ishl, 1) := by decide +kernel
theorem dX1_holds_48 : decode cX1_holds 48 = .ok (.if_icmp .ge 31, 3) := by decide +kernel
theorem dX1_holds_51 : decode cX1_holds 51 = .ok (.iload 4, 2) := by decide +kernel
theorem dX1_holds_53 : decode cX1_holds 53 = .ok (.iload_n 3, 1) := by decide +kernel
theorem dX1_holds_54 : decode cX1_holds 54 = .ok (.invokestatic 33, 3) := by decide +kernel
theorem dX1_holds_57 : decode cX1_holds 57 = .ok (.ifCond .eq 16, 3) := by decide +kernel
theorem dX1_holds_60 : decode cX1_holds 60 = .ok (.aload_n 0, 1) := by decide +kernel
theorem dX1_holds_61 : decode cX1_holds 61 = .ok (.aload_n 1, 1) := by decide +kernel
theorem dX1_holds_62 : decode cX1_holds 62 = .ok (.aload_n 2, 1) := by decide +kernel
theorem dX1_holds_63 : decode cX1_holds 63 = .ok (.iload 4, 2) := by decide +kernel
theorem dX1_holds_65 : decode cX1_holds 65 = .ok (.invokevirtual 37, 3) := by decide +kernel
theorem dX1_holds_68 : decode cX1_holds 68 = .ok (.ifCond .eq 5, 3) := by decide +kernel
theorem dX1_holds_71 : decode cX1_holds 71 = .ok (.iconst 1, 1) := by decide +kernel
theorem dX1_holds_72 : decode cX1_holds 72 = .ok (.ireturn, 1) := by decide +kernel
theorem dX1_holds_73 : decode cX1_holds 73 = .ok (.iinc 4 1, 3) := by decide +kernel
theorem dX1_holds_76 : decode cX1_holds 76 = .ok (.goto (-35), 3) := by decide +kernel
theorem dX1_holds_79 : decode cX1_holds 79 = .ok (.iconst 0, 1) := by decide +kernel
theorem dX1_holds_80 : decode cX1_holds 80 = .ok (.ireturn, 1) := by decide +kernel
theorem kn_X1_init : Kn yX1_init cX1_init 1 none 0 := ⟨wm_101, wm_102, by decide +kernel, by decide⟩
theorem kn_X1_nameFits : Kn yX1_nameFits cX1_nameFits 6 (some .boolean) 3 := ⟨wm_869, wm_102, by decide +kernel, by decide⟩
theorem kn_X1_objectFits : Kn yX1_objectFits cX1_objectFits 7 (some .boolean) 4 := ⟨wm_870, wm_102, by decide +kernel, by decide⟩
theorem kn_X1_entryFits : Kn yX1_entryFits cX1_entryFits 7 (some .boolean) 4 := ⟨wm_878, wm_102, by decide +kernel, by decide⟩
theorem kn_X1_threadFits : Kn yX1_threadFits cX1_threadFits 8 (some .boolean) 4 := ⟨wm_886, wm_102, by decide +kernel, by decide⟩
theorem kn_X1_fits : Kn yX1_fits cX1_fits 7 (some .boolean) 3 := ⟨wm_890, wm_102, by decide +kernel, by decide⟩
theorem kn_X1_takesEachThread : Kn yX1_takesEachThread cX1_takesEachThread 4 (some .boolean) 2 := ⟨wm_897, wm_102, by decide +kernel, by decide⟩
theorem kn_X1_holds : Kn yX1_holds cX1_holds 5 (some .boolean) 2 := ⟨wm_898, wm_102, by decide +kernel, by decide⟩
/-! ===== LitmusHouse$Likeness.<init>()V ===== -/
def b_X1_init_0 (a0 : Nat) (h : AH) : Option (AH) :=
  (ok_h a0).bind fun x1 => (n_a h 100 (16 : Int32)).bind fun h2 => (p_r h2 a0 1 0 (hp_n h)).bind fun h3 => (n_a h3 100 (16 : Int32)).bind fun h4 => (p_r h4 a0 1 1 (hp_n h3)).bind fun h5 => some h5
set_option maxHeartbeats 4000000 in
set_option maxRecDepth 100000 in
theorem q_X1_init_0 {a0 : Nat} {h hE : AH} (hf : b_X1_init_0 a0 h = some hE) : JD cX1_init 1 RX1 "<init>" none (2) 0 [(0, .inr (.inr (a0)))] [] h hE none := by
  unfold b_X1_init_0 at hf
  obtain ⟨x1, e1, hf⟩ := bnd hf
  obtain ⟨h2, e2, hf⟩ := bnd hf
  have m2 := nn_n e2
  obtain ⟨h3, e3, hf⟩ := bnd hf
  have m3 := nn_pr e3
  obtain ⟨h4, e4, hf⟩ := bnd hf
  have m4 := nn_n e4
  obtain ⟨h5, e5, hf⟩ := bnd hf
  have m5 := nn_pr e5
  have hh := Option.some.inj hf
  subst hh
  have mE : hp_n h5 ≤ hp_n h5 ∧ hp_s h5 ≤ hp_s h5 := ⟨Nat.le_refl _, Nat.le_refl _⟩
  refine ⟨by omega, fun X g K ok nmx lev hK en => ?_⟩
  refine tj_aload_n ok 0 dX1_init_0 rfl rfl ?_
  refine tj_objInit (rest := ([] : List TV).map (vl g)) ok lev (by omega) (of_if e1).1 wm_103 wm_75 wm_obj (rs_ok (Nat.le_of_ble_eq_true rfl)) dX1_init_1 ?_
  refine tj_aload_n ok 0 dX1_init_4 rfl rfl ?_
  refine tj_bipush (v := 16) ok dX1_init_5 (by decide) ?_
  refine tj_newI ok wm_39 dX1_init_7 e2 (CaX.of en (by omega)) ?_
  refine tj_putR (k := 0) ok fcX1 (by decide) wm_104 rfl (Or.inr ⟨nmx, rfl⟩) (Or.inr ⟨_, rfl⟩) dX1_init_9 e3 ?_
  refine tj_aload_n ok 0 dX1_init_12 rfl rfl ?_
  refine tj_bipush (v := 16) ok dX1_init_13 (by decide) ?_
  refine tj_newI ok wm_39 dX1_init_15 e4 (CaX.of en (by omega)) ?_
  refine tj_putR (k := 1) ok fcX1 (by decide) wm_105 rfl (Or.inr ⟨nmx, rfl⟩) (Or.inr ⟨_, rfl⟩) dX1_init_17 e5 ?_
  exact tj_return ok en dX1_init_20
def f_X1_init (a0 : Nat) (h : AH) : Option (AH) := b_X1_init_0  a0 h
theorem c_X1_init {a0 : Nat} {h hE : AH} (hf : f_X1_init a0 h = some hE) : ∀ g : GT, CM g (2) yX1_init cX1_init 1 none h [.inr (.inr (a0))] hE none :=
  CM.ofJ (by decide) (by show _ ≤ 1; exact Nat.le_of_ble_eq_true rfl) (q_X1_init_0 hf)
/-! ===== LitmusHouse$Likeness.nameFits(III)Z ===== -/
def b_X1_nameFits_20 (s0 : Int32) (h : AH) : Option (Int32 × AH) :=
  ok_z s0 h
set_option maxHeartbeats 4000000 in
set_option maxRecDepth 100000 in
theorem q_X1_nameFits_20 {s0 : Int32} {h hE : AH} {v : Int32} (hf : b_X1_nameFits_20 s0 h = some (v, hE)) : JD cX1_nameFits 6 RX1 "nameFits" (some .boolean) (2) 20 [] [.inl (s0)] h hE (some (.inl (v))) := by
  unfold b_X1_nameFits_20 at hf
  have mE : hp_n h ≤ hp_n hE ∧ hp_s h ≤ hp_s hE := by obtain ⟨-, q⟩ := of_if hf; cases q; exact ⟨Nat.le_refl _, Nat.le_refl _⟩
  refine ⟨by omega, fun X g K ok nmx lev hK en => ?_⟩
  exact tj_zreturn ok hf en dX1_nameFits_20
def b_X1_nameFits_19  (h : AH) : Option (Int32 × AH) :=
  b_X1_nameFits_20 (0 : Int32) h
set_option maxHeartbeats 4000000 in
set_option maxRecDepth 100000 in
theorem q_X1_nameFits_19 {h hE : AH} {v : Int32} (hf : b_X1_nameFits_19  h = some (v, hE)) : JD cX1_nameFits 6 RX1 "nameFits" (some .boolean) (2) 19 [] [] h hE (some (.inl (v))) := by
  unfold b_X1_nameFits_19 at hf
  have J := q_X1_nameFits_20 hf
  have mE := J.1
  refine ⟨by omega, fun X g K ok nmx lev hK en => ?_⟩
  refine tj_iconst (v := 0) ok dX1_nameFits_19 (by decide) ?_
  exact J.2 X g K ok nmx lev hK en
def b_X1_nameFits_15  (h : AH) : Option (Int32 × AH) :=
  b_X1_nameFits_20 (1 : Int32) h
set_option maxHeartbeats 4000000 in
set_option maxRecDepth 100000 in
theorem q_X1_nameFits_15 {h hE : AH} {v : Int32} (hf : b_X1_nameFits_15  h = some (v, hE)) : JD cX1_nameFits 6 RX1 "nameFits" (some .boolean) (2) 15 [] [] h hE (some (.inl (v))) := by
  unfold b_X1_nameFits_15 at hf
  have J := q_X1_nameFits_20 hf
  have mE := J.1
  refine ⟨by omega, fun X g K ok nmx lev hK en => ?_⟩
  refine tj_iconst (v := 1) ok dX1_nameFits_15 (by decide) ?_
  refine tj_goto (tgt := 20) ok dX1_nameFits_16 (by decide) ?_
  exact J.2 X g K ok nmx lev hK en
def b_X1_nameFits_10 (a2 : Int32) (a3 : Int32) (h : AH) : Option (Int32 × AH) :=
  if a2 = a3 then b_X1_nameFits_15 h else b_X1_nameFits_19 h
set_option maxHeartbeats 4000000 in
set_option maxRecDepth 100000 in
theorem q_X1_nameFits_10 {a2 : Int32} {a3 : Int32} {h hE : AH} {v : Int32} (hf : b_X1_nameFits_10 a2 a3 h = some (v, hE)) : JD cX1_nameFits 6 RX1 "nameFits" (some .boolean) (2) 10 [(2, .inl (a2)), (3, .inl (a3))] [] h hE (some (.inl (v))) := by
  unfold b_X1_nameFits_10 at hf
  have mE : hp_n h ≤ hp_n hE ∧ hp_s h ≤ hp_s hE := by
    by_cases hc : a2 = a3
    · rw [if_pos hc] at hf; exact (q_X1_nameFits_15 hf).1
    · rw [if_neg hc] at hf; exact (q_X1_nameFits_19 hf).1
  refine ⟨by omega, fun X g K ok nmx lev hK en => ?_⟩
  refine tj_iload_n ok 0 dX1_nameFits_10 rfl rfl ?_
  refine tj_iload_n ok 1 dX1_nameFits_11 rfl rfl ?_
  refine tj_icmp_ne (tgt := 19) ok dX1_nameFits_12 (by decide) (fun hc => ?_) (fun hc => ?_)
  · rw [if_neg hc] at hf
    refine tj_sub (lv' := []) [] rfl ?_
    exact (q_X1_nameFits_19 hf).2 X g K ok nmx lev hK en
  · rw [if_pos hc] at hf
    refine tj_sub (lv' := []) [] rfl ?_
    exact (q_X1_nameFits_15 hf).2 X g K ok nmx lev hK en
def b_X1_nameFits_94 (s0 : Int32) (h : AH) : Option (Int32 × AH) :=
  ok_z s0 h
set_option maxHeartbeats 4000000 in
set_option maxRecDepth 100000 in
theorem q_X1_nameFits_94 {s0 : Int32} {h hE : AH} {v : Int32} (hf : b_X1_nameFits_94 s0 h = some (v, hE)) : JD cX1_nameFits 6 RX1 "nameFits" (some .boolean) (2) 94 [] [.inl (s0)] h hE (some (.inl (v))) := by
  unfold b_X1_nameFits_94 at hf
  have mE : hp_n h ≤ hp_n hE ∧ hp_s h ≤ hp_s hE := by obtain ⟨-, q⟩ := of_if hf; cases q; exact ⟨Nat.le_refl _, Nat.le_refl _⟩
  refine ⟨by omega, fun X g K ok nmx lev hK en => ?_⟩
  exact tj_zreturn ok hf en dX1_nameFits_94
def b_X1_nameFits_93  (h : AH) : Option (Int32 × AH) :=
  b_X1_nameFits_94 (0 : Int32) h
set_option maxHeartbeats 4000000 in
set_option maxRecDepth 100000 in
theorem q_X1_nameFits_93 {h hE : AH} {v : Int32} (hf : b_X1_nameFits_93  h = some (v, hE)) : JD cX1_nameFits 6 RX1 "nameFits" (some .boolean) (2) 93 [] [] h hE (some (.inl (v))) := by
  unfold b_X1_nameFits_93 at hf
  have J := q_X1_nameFits_94 hf
  have mE := J.1
  refine ⟨by omega, fun X g K ok nmx lev hK en => ?_⟩
  refine tj_iconst (v := 0) ok dX1_nameFits_93 (by decide) ?_
  exact J.2 X g K ok nmx lev hK en
def b_X1_nameFits_89  (h : AH) : Option (Int32 × AH) :=
  b_X1_nameFits_94 (1 : Int32) h
set_option maxHeartbeats 4000000 in
set_option maxRecDepth 100000 in
theorem q_X1_nameFits_89 {h hE : AH} {v : Int32} (hf : b_X1_nameFits_89  h = some (v, hE)) : JD cX1_nameFits 6 RX1 "nameFits" (some .boolean) (2) 89 [] [] h hE (some (.inl (v))) := by
  unfold b_X1_nameFits_89 at hf
  have J := q_X1_nameFits_94 hf
  have mE := J.1
  refine ⟨by omega, fun X g K ok nmx lev hK en => ?_⟩
  refine tj_iconst (v := 1) ok dX1_nameFits_89 (by decide) ?_
  refine tj_goto (tgt := 94) ok dX1_nameFits_90 (by decide) ?_
  exact J.2 X g K ok nmx lev hK en
def b_X1_nameFits_77 (a0 : Nat) (a4 : Int32) (a5 : Int32) (h : AH) : Option (Int32 × AH) :=
  (g_r h a0 1 0).bind fun x1 => (l_i h x1 a4).bind fun x2 => if x2 = a5 then b_X1_nameFits_89 h else b_X1_nameFits_93 h
set_option maxHeartbeats 4000000 in
set_option maxRecDepth 100000 in
theorem q_X1_nameFits_77 {a0 : Nat} {a4 : Int32} {a5 : Int32} {h hE : AH} {v : Int32} (hf : b_X1_nameFits_77 a0 a4 a5 h = some (v, hE)) : JD cX1_nameFits 6 RX1 "nameFits" (some .boolean) (2) 77 [(0, .inr (.inr (a0))), (4, .inl (a4)), (5, .inl (a5))] [] h hE (some (.inl (v))) := by
  unfold b_X1_nameFits_77 at hf
  obtain ⟨x1, e1, hf⟩ := bnd hf
  obtain ⟨x2, e2, hf⟩ := bnd hf
  have mE : hp_n h ≤ hp_n hE ∧ hp_s h ≤ hp_s hE := by
    by_cases hc : x2 = a5
    · rw [if_pos hc] at hf; exact (q_X1_nameFits_89 hf).1
    · rw [if_neg hc] at hf; exact (q_X1_nameFits_93 hf).1
  refine ⟨by omega, fun X g K ok nmx lev hK en => ?_⟩
  refine tj_aload_n ok 0 dX1_nameFits_77 rfl rfl ?_
  refine tj_getR (k := 0) ok fcX1 (by decide) wm_104 rfl (Or.inr ⟨_, rfl⟩) dX1_nameFits_78 e1 ?_
  refine tj_iload ok 1 dX1_nameFits_81 rfl ?_
  refine tj_iaload ok dX1_nameFits_83 e2 ?_
  refine tj_iload ok 2 dX1_nameFits_84 rfl ?_
  refine tj_icmp_ne (tgt := 93) ok dX1_nameFits_86 (by decide) (fun hc => ?_) (fun hc => ?_)
  · rw [if_neg hc] at hf
    refine tj_sub (lv' := []) [] rfl ?_
    exact (q_X1_nameFits_93 hf).2 X g K ok nmx lev hK en
  · rw [if_pos hc] at hf
    refine tj_sub (lv' := []) [] rfl ?_
    exact (q_X1_nameFits_89 hf).2 X g K ok nmx lev hK en
def b_X1_nameFits_59 (a0 : Nat) (a4 : Int32) (a5 : Int32) (h : AH) : Option (Int32 × AH) :=
  (g_r h a0 1 0).bind fun x1 => (s_i h x1 a4 a5).bind fun h2 => (g_r h2 a0 1 1).bind fun x3 => (s_i h2 x3 a5 a4).bind fun h4 => b_X1_nameFits_77 a0 a4 a5 h4
set_option maxHeartbeats 4000000 in
set_option maxRecDepth 100000 in
theorem q_X1_nameFits_59 {a0 : Nat} {a4 : Int32} {a5 : Int32} {h hE : AH} {v : Int32} (hf : b_X1_nameFits_59 a0 a4 a5 h = some (v, hE)) : JD cX1_nameFits 6 RX1 "nameFits" (some .boolean) (2) 59 [(0, .inr (.inr (a0))), (4, .inl (a4)), (5, .inl (a5))] [] h hE (some (.inl (v))) := by
  unfold b_X1_nameFits_59 at hf
  obtain ⟨x1, e1, hf⟩ := bnd hf
  obtain ⟨h2, e2, hf⟩ := bnd hf
  have m2 := nn_si e2
  obtain ⟨x3, e3, hf⟩ := bnd hf
  obtain ⟨h4, e4, hf⟩ := bnd hf
  have m4 := nn_si e4
  have J := q_X1_nameFits_77 hf
  have mE := J.1
  refine ⟨by omega, fun X g K ok nmx lev hK en => ?_⟩
  refine tj_aload_n ok 0 dX1_nameFits_59 rfl rfl ?_
  refine tj_getR (k := 0) ok fcX1 (by decide) wm_104 rfl (Or.inr ⟨_, rfl⟩) dX1_nameFits_60 e1 ?_
  refine tj_iload ok 1 dX1_nameFits_63 rfl ?_
  refine tj_iload ok 2 dX1_nameFits_65 rfl ?_
  refine tj_iastore ok dX1_nameFits_67 e2 ?_
  refine tj_aload_n ok 0 dX1_nameFits_68 rfl rfl ?_
  refine tj_getR (k := 1) ok fcX1 (by decide) wm_105 rfl (Or.inr ⟨_, rfl⟩) dX1_nameFits_69 e3 ?_
  refine tj_iload ok 2 dX1_nameFits_72 rfl ?_
  refine tj_iload ok 1 dX1_nameFits_74 rfl ?_
  refine tj_iastore ok dX1_nameFits_76 e4 ?_
  exact J.2 X g K ok nmx lev hK en
def b_X1_nameFits_48 (a0 : Nat) (a4 : Int32) (a5 : Int32) (h : AH) : Option (Int32 × AH) :=
  (g_r h a0 1 1).bind fun x1 => (l_i h x1 a5).bind fun x2 => if x2 = (-1 : Int32) then b_X1_nameFits_59 a0 a4 a5 h else b_X1_nameFits_77 a0 a4 a5 h
set_option maxHeartbeats 4000000 in
set_option maxRecDepth 100000 in
theorem q_X1_nameFits_48 {a0 : Nat} {a4 : Int32} {a5 : Int32} {h hE : AH} {v : Int32} (hf : b_X1_nameFits_48 a0 a4 a5 h = some (v, hE)) : JD cX1_nameFits 6 RX1 "nameFits" (some .boolean) (2) 48 [(0, .inr (.inr (a0))), (4, .inl (a4)), (5, .inl (a5))] [] h hE (some (.inl (v))) := by
  unfold b_X1_nameFits_48 at hf
  obtain ⟨x1, e1, hf⟩ := bnd hf
  obtain ⟨x2, e2, hf⟩ := bnd hf
  have mE : hp_n h ≤ hp_n hE ∧ hp_s h ≤ hp_s hE := by
    by_cases hc : x2 = (-1 : Int32)
    · rw [if_pos hc] at hf; exact (q_X1_nameFits_59 hf).1
    · rw [if_neg hc] at hf; exact (q_X1_nameFits_77 hf).1
  refine ⟨by omega, fun X g K ok nmx lev hK en => ?_⟩
  refine tj_aload_n ok 0 dX1_nameFits_48 rfl rfl ?_
  refine tj_getR (k := 1) ok fcX1 (by decide) wm_105 rfl (Or.inr ⟨_, rfl⟩) dX1_nameFits_49 e1 ?_
  refine tj_iload ok 2 dX1_nameFits_52 rfl ?_
  refine tj_iaload ok dX1_nameFits_54 e2 ?_
  refine tj_iconst (v := -1) ok dX1_nameFits_55 (by decide) ?_
  refine tj_icmp_ne (tgt := 77) ok dX1_nameFits_56 (by decide) (fun hc => ?_) (fun hc => ?_)
  · rw [if_neg hc] at hf
    exact (q_X1_nameFits_77 hf).2 X g K ok nmx lev hK en
  · rw [if_pos hc] at hf
    exact (q_X1_nameFits_59 hf).2 X g K ok nmx lev hK en
def b_X1_nameFits_21 (a0 : Nat) (a1 : Int32) (a2 : Int32) (a3 : Int32) (h : AH) : Option (Int32 × AH) :=
  (g_r h a0 1 0).bind fun x1 => (l_i h x1 ((a1 + a2) &&& (15 : Int32))).bind fun x2 => if x2 = (-1 : Int32) then b_X1_nameFits_48 a0 ((a1 + a2) &&& (15 : Int32)) ((a1 + a3) &&& (15 : Int32)) h else b_X1_nameFits_77 a0 ((a1 + a2) &&& (15 : Int32)) ((a1 + a3) &&& (15 : Int32)) h
set_option maxHeartbeats 4000000 in
set_option maxRecDepth 100000 in
theorem q_X1_nameFits_21 {a0 : Nat} {a1 : Int32} {a2 : Int32} {a3 : Int32} {h hE : AH} {v : Int32} (hf : b_X1_nameFits_21 a0 a1 a2 a3 h = some (v, hE)) : JD cX1_nameFits 6 RX1 "nameFits" (some .boolean) (2) 21 [(0, .inr (.inr (a0))), (1, .inl (a1)), (2, .inl (a2)), (3, .inl (a3))] [] h hE (some (.inl (v))) := by
  unfold b_X1_nameFits_21 at hf
  obtain ⟨x1, e1, hf⟩ := bnd hf
  obtain ⟨x2, e2, hf⟩ := bnd hf
  have mE : hp_n h ≤ hp_n hE ∧ hp_s h ≤ hp_s hE := by
    by_cases hc : x2 = (-1 : Int32)
    · rw [if_pos hc] at hf; exact (q_X1_nameFits_48 hf).1
    · rw [if_neg hc] at hf; exact (q_X1_nameFits_77 hf).1
  refine ⟨by omega, fun X g K ok nmx lev hK en => ?_⟩
  refine tj_iload_n ok 1 dX1_nameFits_21 rfl rfl ?_
  refine tj_iload_n ok 2 dX1_nameFits_22 rfl rfl ?_
  refine tj_iadd ok dX1_nameFits_23 ?_
  refine tj_bipush (v := 15) ok dX1_nameFits_24 (by decide) ?_
  refine tj_iand ok dX1_nameFits_26 ?_
  refine tj_istore (lv' := [(0, .inr (.inr (a0))), (1, .inl (a1)), (2, .inl (a2)), (3, .inl (a3)), (4, .inl ((a1 + a2) &&& (15 : Int32)))]) ok dX1_nameFits_27 (by decide) rfl ?_
  refine tj_iload_n ok 1 dX1_nameFits_29 rfl rfl ?_
  refine tj_iload_n ok 3 dX1_nameFits_30 rfl rfl ?_
  refine tj_iadd ok dX1_nameFits_31 ?_
  refine tj_bipush (v := 15) ok dX1_nameFits_32 (by decide) ?_
  refine tj_iand ok dX1_nameFits_34 ?_
  refine tj_istore (lv' := [(0, .inr (.inr (a0))), (1, .inl (a1)), (2, .inl (a2)), (3, .inl (a3)), (4, .inl ((a1 + a2) &&& (15 : Int32))), (5, .inl ((a1 + a3) &&& (15 : Int32)))]) ok dX1_nameFits_35 (by decide) rfl ?_
  refine tj_aload_n ok 0 dX1_nameFits_37 rfl rfl ?_
  refine tj_getR (k := 0) ok fcX1 (by decide) wm_104 rfl (Or.inr ⟨_, rfl⟩) dX1_nameFits_38 e1 ?_
  refine tj_iload ok 4 dX1_nameFits_41 rfl ?_
  refine tj_iaload ok dX1_nameFits_43 e2 ?_
  refine tj_iconst (v := -1) ok dX1_nameFits_44 (by decide) ?_
  refine tj_icmp_ne (tgt := 77) ok dX1_nameFits_45 (by decide) (fun hc => ?_) (fun hc => ?_)
  · rw [if_neg hc] at hf
    refine tj_sub (lv' := [(0, .inr (.inr (a0))), (4, .inl ((a1 + a2) &&& (15 : Int32))), (5, .inl ((a1 + a3) &&& (15 : Int32)))]) [0, 4, 5] rfl ?_
    exact (q_X1_nameFits_77 hf).2 X g K ok nmx lev hK en
  · rw [if_pos hc] at hf
    refine tj_sub (lv' := [(0, .inr (.inr (a0))), (4, .inl ((a1 + a2) &&& (15 : Int32))), (5, .inl ((a1 + a3) &&& (15 : Int32)))]) [0, 4, 5] rfl ?_
    exact (q_X1_nameFits_48 hf).2 X g K ok nmx lev hK en
def b_X1_nameFits_5 (a0 : Nat) (a1 : Int32) (a2 : Int32) (a3 : Int32) (h : AH) : Option (Int32 × AH) :=
  if a3 = (-1 : Int32) then b_X1_nameFits_10 a2 a3 h else b_X1_nameFits_21 a0 a1 a2 a3 h
set_option maxHeartbeats 4000000 in
set_option maxRecDepth 100000 in
theorem q_X1_nameFits_5 {a0 : Nat} {a1 : Int32} {a2 : Int32} {a3 : Int32} {h hE : AH} {v : Int32} (hf : b_X1_nameFits_5 a0 a1 a2 a3 h = some (v, hE)) : JD cX1_nameFits 6 RX1 "nameFits" (some .boolean) (2) 5 [(0, .inr (.inr (a0))), (1, .inl (a1)), (2, .inl (a2)), (3, .inl (a3))] [] h hE (some (.inl (v))) := by
  unfold b_X1_nameFits_5 at hf
  have mE : hp_n h ≤ hp_n hE ∧ hp_s h ≤ hp_s hE := by
    by_cases hc : a3 = (-1 : Int32)
    · rw [if_pos hc] at hf; exact (q_X1_nameFits_10 hf).1
    · rw [if_neg hc] at hf; exact (q_X1_nameFits_21 hf).1
  refine ⟨by omega, fun X g K ok nmx lev hK en => ?_⟩
  refine tj_iload_n ok 3 dX1_nameFits_5 rfl rfl ?_
  refine tj_iconst (v := -1) ok dX1_nameFits_6 (by decide) ?_
  refine tj_icmp_ne (tgt := 21) ok dX1_nameFits_7 (by decide) (fun hc => ?_) (fun hc => ?_)
  · rw [if_neg hc] at hf
    exact (q_X1_nameFits_21 hf).2 X g K ok nmx lev hK en
  · rw [if_pos hc] at hf
    refine tj_sub (lv' := [(2, .inl (a2)), (3, .inl (a3))]) [2, 3] rfl ?_
    exact (q_X1_nameFits_10 hf).2 X g K ok nmx lev hK en
def b_X1_nameFits_0 (a0 : Nat) (a1 : Int32) (a2 : Int32) (a3 : Int32) (h : AH) : Option (Int32 × AH) :=
  if a2 = (-1 : Int32) then b_X1_nameFits_10 a2 a3 h else b_X1_nameFits_5 a0 a1 a2 a3 h
set_option maxHeartbeats 4000000 in
set_option maxRecDepth 100000 in
theorem q_X1_nameFits_0 {a0 : Nat} {a1 : Int32} {a2 : Int32} {a3 : Int32} {h hE : AH} {v : Int32} (hf : b_X1_nameFits_0 a0 a1 a2 a3 h = some (v, hE)) : JD cX1_nameFits 6 RX1 "nameFits" (some .boolean) (2) 0 [(0, .inr (.inr (a0))), (1, .inl (a1)), (2, .inl (a2)), (3, .inl (a3))] [] h hE (some (.inl (v))) := by
  unfold b_X1_nameFits_0 at hf
  have mE : hp_n h ≤ hp_n hE ∧ hp_s h ≤ hp_s hE := by
    by_cases hc : a2 = (-1 : Int32)
    · rw [if_pos hc] at hf; exact (q_X1_nameFits_10 hf).1
    · rw [if_neg hc] at hf; exact (q_X1_nameFits_5 hf).1
  refine ⟨by omega, fun X g K ok nmx lev hK en => ?_⟩
  refine tj_iload_n ok 2 dX1_nameFits_0 rfl rfl ?_
  refine tj_iconst (v := -1) ok dX1_nameFits_1 (by decide) ?_
  refine tj_icmp_eq (tgt := 10) ok dX1_nameFits_2 (by decide) (fun hc => ?_) (fun hc => ?_)
  · rw [if_pos hc] at hf
    refine tj_sub (lv' := [(2, .inl (a2)), (3, .inl (a3))]) [2, 3] rfl ?_
    exact (q_X1_nameFits_10 hf).2 X g K ok nmx lev hK en
  · rw [if_neg hc] at hf
    exact (q_X1_nameFits_5 hf).2 X g K ok nmx lev hK en
def f_X1_nameFits (a0 : Nat) (a1 : Int32) (a2 : Int32) (a3 : Int32) (h : AH) : Option (Int32 × AH) := b_X1_nameFits_0  a0 a1 a2 a3 h
theorem c_X1_nameFits {a0 : Nat} {a1 : Int32} {a2 : Int32} {a3 : Int32} {h hE : AH} {v : Int32} (hf : f_X1_nameFits a0 a1 a2 a3 h = some (v, hE)) : ∀ g : GT, CM g (2) yX1_nameFits cX1_nameFits 6 (some .boolean) h [.inr (.inr (a0)), .inl (a1), .inl (a2), .inl (a3)] hE (some (.inl (v))) :=
  CM.ofJ (by decide) (by show _ ≤ 6; exact Nat.le_of_ble_eq_true rfl) (q_X1_nameFits_0 hf)
/-! ===== LitmusHouse$Likeness.objectFits(LLitmusHouse$Program;LLitmusHouse$Program;II)Z ===== -/
def b_X1_objectFits_85 (s0 : Int32) (h : AH) : Option (Int32 × AH) :=
  ok_z s0 h
set_option maxHeartbeats 4000000 in
set_option maxRecDepth 100000 in
theorem q_X1_objectFits_85 {s0 : Int32} {h hE : AH} {v : Int32} (hf : b_X1_objectFits_85 s0 h = some (v, hE)) : JD cX1_objectFits 7 RX1 "objectFits" (some .boolean) (3) 85 [] [.inl (s0)] h hE (some (.inl (v))) := by
  unfold b_X1_objectFits_85 at hf
  have mE : hp_n h ≤ hp_n hE ∧ hp_s h ≤ hp_s hE := by obtain ⟨-, q⟩ := of_if hf; cases q; exact ⟨Nat.le_refl _, Nat.le_refl _⟩
  refine ⟨by omega, fun X g K ok nmx lev hK en => ?_⟩
  exact tj_zreturn ok hf en dX1_objectFits_85
def b_X1_objectFits_84  (h : AH) : Option (Int32 × AH) :=
  b_X1_objectFits_85 (0 : Int32) h
set_option maxHeartbeats 4000000 in
set_option maxRecDepth 100000 in
theorem q_X1_objectFits_84 {h hE : AH} {v : Int32} (hf : b_X1_objectFits_84  h = some (v, hE)) : JD cX1_objectFits 7 RX1 "objectFits" (some .boolean) (3) 84 [] [] h hE (some (.inl (v))) := by
  unfold b_X1_objectFits_84 at hf
  have J := q_X1_objectFits_85 hf
  have mE := J.1
  refine ⟨by omega, fun X g K ok nmx lev hK en => ?_⟩
  refine tj_iconst (v := 0) ok dX1_objectFits_84 (by decide) ?_
  exact J.2 X g K ok nmx lev hK en
def b_X1_objectFits_80  (h : AH) : Option (Int32 × AH) :=
  b_X1_objectFits_85 (1 : Int32) h
set_option maxHeartbeats 4000000 in
set_option maxRecDepth 100000 in
theorem q_X1_objectFits_80 {h hE : AH} {v : Int32} (hf : b_X1_objectFits_80  h = some (v, hE)) : JD cX1_objectFits 7 RX1 "objectFits" (some .boolean) (3) 80 [] [] h hE (some (.inl (v))) := by
  unfold b_X1_objectFits_80 at hf
  have J := q_X1_objectFits_85 hf
  have mE := J.1
  refine ⟨by omega, fun X g K ok nmx lev hK en => ?_⟩
  refine tj_iconst (v := 1) ok dX1_objectFits_80 (by decide) ?_
  refine tj_goto (tgt := 85) ok dX1_objectFits_81 (by decide) ?_
  exact J.2 X g K ok nmx lev hK en
def b_X1_objectFits_68 (a0 : Nat) (a5 : Int32) (a6 : Int32) (h : AH) : Option (Int32 × AH) :=
  (ok_v h a0 1).bind fun x1 => (f_X1_nameFits a0 (0 : Int32) a5 a6 h).bind fun q2 => if q2.1 = 0 then b_X1_objectFits_84 q2.2 else b_X1_objectFits_80 q2.2
set_option maxHeartbeats 4000000 in
set_option maxRecDepth 100000 in
theorem q_X1_objectFits_68 {a0 : Nat} {a5 : Int32} {a6 : Int32} {h hE : AH} {v : Int32} (hf : b_X1_objectFits_68 a0 a5 a6 h = some (v, hE)) : JD cX1_objectFits 7 RX1 "objectFits" (some .boolean) (3) 68 [(0, .inr (.inr (a0))), (5, .inl (a5)), (6, .inl (a6))] [] h hE (some (.inl (v))) := by
  unfold b_X1_objectFits_68 at hf
  obtain ⟨x1, e1, hf⟩ := bnd hf
  obtain ⟨⟨x2, h2⟩, e2, hf⟩ := bnd hf
  try dsimp only at hf
  have k2 := c_X1_nameFits e2
  have m2 := (k2 default_g).1
  have mE : hp_n h2 ≤ hp_n hE ∧ hp_s h2 ≤ hp_s hE := by
    by_cases hc : x2 = 0
    · rw [if_pos hc] at hf; exact (q_X1_objectFits_84 hf).1
    · rw [if_neg hc] at hf; exact (q_X1_objectFits_80 hf).1
  refine ⟨by omega, fun X g K ok nmx lev hK en => ?_⟩
  refine tj_aload_n ok 0 dX1_objectFits_68 rfl rfl ?_
  refine tj_iconst (v := 0) ok dX1_objectFits_69 (by decide) ?_
  refine tj_iload ok 1 dX1_objectFits_70 rfl ?_
  refine tj_iload ok 2 dX1_objectFits_72 rfl ?_
  refine tj_callV (rest := ([] : List TV).map (vl g)) (as := [.inl ((0 : Int32)), .inl (a5), .inl (a6)]) ok lev (by omega) fcX1.1 (by decide) rfl (of_if e1).1 (k2 g) (CaX.of en (by omega)) kn_X1_nameFits wm_871 wm_872 wm_873 (rs_ok (Nat.le_of_ble_eq_true rfl)) rfl rfl dX1_objectFits_74 ?_
  refine tj_if_eq (tgt := 84) ok dX1_objectFits_77 (by decide) (fun hc => ?_) (fun hc => ?_)
  · rw [if_pos hc] at hf
    refine tj_sub (lv' := []) [] rfl ?_
    exact (q_X1_objectFits_84 hf).2 X g K ok nmx lev hK en
  · rw [if_neg hc] at hf
    refine tj_sub (lv' := []) [] rfl ?_
    exact (q_X1_objectFits_80 hf).2 X g K ok nmx lev hK en
def b_X1_objectFits_45 (a0 : Nat) (a1 : Nat) (a2 : Nat) (a5 : Int32) (a6 : Int32) (h : AH) : Option (Int32 × AH) :=
  (g_r h a1 5 1).bind fun x1 => (l_i h x1 (a5 &&& (7 : Int32))).bind fun x2 => (g_r h a2 5 1).bind fun x3 => (l_i h x3 (a6 &&& (7 : Int32))).bind fun x4 => if x2 = x4 then b_X1_objectFits_68 a0 a5 a6 h else b_X1_objectFits_84 h
set_option maxHeartbeats 4000000 in
set_option maxRecDepth 100000 in
theorem q_X1_objectFits_45 {a0 : Nat} {a1 : Nat} {a2 : Nat} {a5 : Int32} {a6 : Int32} {h hE : AH} {v : Int32} (hf : b_X1_objectFits_45 a0 a1 a2 a5 a6 h = some (v, hE)) : JD cX1_objectFits 7 RX1 "objectFits" (some .boolean) (3) 45 [(0, .inr (.inr (a0))), (1, .inr (.inr (a1))), (2, .inr (.inr (a2))), (5, .inl (a5)), (6, .inl (a6))] [] h hE (some (.inl (v))) := by
  unfold b_X1_objectFits_45 at hf
  obtain ⟨x1, e1, hf⟩ := bnd hf
  obtain ⟨x2, e2, hf⟩ := bnd hf
  obtain ⟨x3, e3, hf⟩ := bnd hf
  obtain ⟨x4, e4, hf⟩ := bnd hf
  have mE : hp_n h ≤ hp_n hE ∧ hp_s h ≤ hp_s hE := by
    by_cases hc : x2 = x4
    · rw [if_pos hc] at hf; exact (q_X1_objectFits_68 hf).1
    · rw [if_neg hc] at hf; exact (q_X1_objectFits_84 hf).1
  refine ⟨by omega, fun X g K ok nmx lev hK en => ?_⟩
  refine tj_aload_n ok 1 dX1_objectFits_45 rfl rfl ?_
  refine tj_getR (k := 1) ok fcX5 (by decide) wm_874 rfl (Or.inr ⟨_, rfl⟩) dX1_objectFits_46 e1 ?_
  refine tj_iload ok 3 dX1_objectFits_49 rfl ?_
  refine tj_bipush (v := 7) ok dX1_objectFits_51 (by decide) ?_
  refine tj_iand ok dX1_objectFits_53 ?_
  refine tj_iaload ok dX1_objectFits_54 e2 ?_
  refine tj_aload_n ok 2 dX1_objectFits_55 rfl rfl ?_
  refine tj_getR (k := 1) ok fcX5 (by decide) wm_874 rfl (Or.inr ⟨_, rfl⟩) dX1_objectFits_56 e3 ?_
  refine tj_iload ok 4 dX1_objectFits_59 rfl ?_
  refine tj_bipush (v := 7) ok dX1_objectFits_61 (by decide) ?_
  refine tj_iand ok dX1_objectFits_63 ?_
  refine tj_iaload ok dX1_objectFits_64 e4 ?_
  refine tj_icmp_ne (tgt := 84) ok dX1_objectFits_65 (by decide) (fun hc => ?_) (fun hc => ?_)
  · rw [if_neg hc] at hf
    refine tj_sub (lv' := []) [] rfl ?_
    exact (q_X1_objectFits_84 hf).2 X g K ok nmx lev hK en
  · rw [if_pos hc] at hf
    refine tj_sub (lv' := [(0, .inr (.inr (a0))), (5, .inl (a5)), (6, .inl (a6))]) [0, 3, 4] rfl ?_
    exact (q_X1_objectFits_68 hf).2 X g K ok nmx lev hK en
def b_X1_objectFits_34 (a0 : Nat) (a5 : Int32) (a6 : Int32) (h : AH) : Option (Int32 × AH) :=
  (ok_v h a0 1).bind fun x1 => (f_X1_nameFits a0 (13 : Int32) a5 a6 h).bind fun q2 => ok_z q2.1 q2.2
set_option maxHeartbeats 4000000 in
set_option maxRecDepth 100000 in
theorem q_X1_objectFits_34 {a0 : Nat} {a5 : Int32} {a6 : Int32} {h hE : AH} {v : Int32} (hf : b_X1_objectFits_34 a0 a5 a6 h = some (v, hE)) : JD cX1_objectFits 7 RX1 "objectFits" (some .boolean) (3) 34 [(0, .inr (.inr (a0))), (5, .inl (a5)), (6, .inl (a6))] [] h hE (some (.inl (v))) := by
  unfold b_X1_objectFits_34 at hf
  obtain ⟨x1, e1, hf⟩ := bnd hf
  obtain ⟨⟨x2, h2⟩, e2, hf⟩ := bnd hf
  try dsimp only at hf
  have k2 := c_X1_nameFits e2
  have m2 := (k2 default_g).1
  have mE : hp_n h2 ≤ hp_n hE ∧ hp_s h2 ≤ hp_s hE := by obtain ⟨-, q⟩ := of_if hf; cases q; exact ⟨Nat.le_refl _, Nat.le_refl _⟩
  refine ⟨by omega, fun X g K ok nmx lev hK en => ?_⟩
  refine tj_aload_n ok 0 dX1_objectFits_34 rfl rfl ?_
  refine tj_bipush (v := 13) ok dX1_objectFits_35 (by decide) ?_
  refine tj_iload ok 1 dX1_objectFits_37 rfl ?_
  refine tj_iload ok 2 dX1_objectFits_39 rfl ?_
  refine tj_callV (rest := ([] : List TV).map (vl g)) (as := [.inl ((13 : Int32)), .inl (a5), .inl (a6)]) ok lev (by omega) fcX1.1 (by decide) rfl (of_if e1).1 (k2 g) (CaX.of en (by omega)) kn_X1_nameFits wm_871 wm_872 wm_873 (rs_ok (Nat.le_of_ble_eq_true rfl)) rfl rfl dX1_objectFits_41 ?_
  exact tj_zreturn ok hf en dX1_objectFits_44
def b_X1_objectFits_0 (a0 : Nat) (a1 : Nat) (a2 : Nat) (a3 : Int32) (a4 : Int32) (h : AH) : Option (Int32 × AH) :=
  (g_r h a1 5 0).bind fun x1 => (g_r h x1 0 4).bind fun x2 => (l_i h x2 a3).bind fun x3 => (g_r h a2 5 0).bind fun x4 => (g_r h x4 0 4).bind fun x5 => (l_i h x5 a4).bind fun x6 => (g_r h a1 5 0).bind fun x7 => (ok_v h x7 0).bind fun x8 => (f_X0_isCellAction x7 a3 h).bind fun q9 => if q9.1 = 0 then b_X1_objectFits_34 a0 x3 x6 q9.2 else b_X1_objectFits_45 a0 a1 a2 x3 x6 q9.2
set_option maxHeartbeats 4000000 in
set_option maxRecDepth 100000 in
theorem q_X1_objectFits_0 {a0 : Nat} {a1 : Nat} {a2 : Nat} {a3 : Int32} {a4 : Int32} {h hE : AH} {v : Int32} (hf : b_X1_objectFits_0 a0 a1 a2 a3 a4 h = some (v, hE)) : JD cX1_objectFits 7 RX1 "objectFits" (some .boolean) (3) 0 [(0, .inr (.inr (a0))), (1, .inr (.inr (a1))), (2, .inr (.inr (a2))), (3, .inl (a3)), (4, .inl (a4))] [] h hE (some (.inl (v))) := by
  unfold b_X1_objectFits_0 at hf
  obtain ⟨x1, e1, hf⟩ := bnd hf
  obtain ⟨x2, e2, hf⟩ := bnd hf
  obtain ⟨x3, e3, hf⟩ := bnd hf
  obtain ⟨x4, e4, hf⟩ := bnd hf
  obtain ⟨x5, e5, hf⟩ := bnd hf
  obtain ⟨x6, e6, hf⟩ := bnd hf
  obtain ⟨x7, e7, hf⟩ := bnd hf
  obtain ⟨x8, e8, hf⟩ := bnd hf
  obtain ⟨⟨x9, h9⟩, e9, hf⟩ := bnd hf
  try dsimp only at hf
  have k9 := c_X0_isCellAction e9
  have m9 := (k9 default_g).1
  have mE : hp_n h9 ≤ hp_n hE ∧ hp_s h9 ≤ hp_s hE := by
    by_cases hc : x9 = 0
    · rw [if_pos hc] at hf; exact (q_X1_objectFits_34 hf).1
    · rw [if_neg hc] at hf; exact (q_X1_objectFits_45 hf).1
  refine ⟨by omega, fun X g K ok nmx lev hK en => ?_⟩
  refine tj_aload_n ok 1 dX1_objectFits_0 rfl rfl ?_
  refine tj_getR (k := 0) ok fcX5 (by decide) wm_875 rfl (Or.inl ⟨_, rfl⟩) dX1_objectFits_1 e1 ?_
  refine tj_getR (k := 4) ok fcX0 (by decide) wm_876 rfl (Or.inr ⟨_, rfl⟩) dX1_objectFits_4 e2 ?_
  refine tj_iload_n ok 3 dX1_objectFits_7 rfl rfl ?_
  refine tj_iaload ok dX1_objectFits_8 e3 ?_
  refine tj_istore (lv' := [(0, .inr (.inr (a0))), (1, .inr (.inr (a1))), (2, .inr (.inr (a2))), (3, .inl (a3)), (4, .inl (a4)), (5, .inl (x3))]) ok dX1_objectFits_9 (by decide) rfl ?_
  refine tj_aload_n ok 2 dX1_objectFits_11 rfl rfl ?_
  refine tj_getR (k := 0) ok fcX5 (by decide) wm_875 rfl (Or.inl ⟨_, rfl⟩) dX1_objectFits_12 e4 ?_
  refine tj_getR (k := 4) ok fcX0 (by decide) wm_876 rfl (Or.inr ⟨_, rfl⟩) dX1_objectFits_15 e5 ?_
  refine tj_iload ok 4 dX1_objectFits_18 rfl ?_
  refine tj_iaload ok dX1_objectFits_20 e6 ?_
  refine tj_istore (lv' := [(0, .inr (.inr (a0))), (1, .inr (.inr (a1))), (2, .inr (.inr (a2))), (3, .inl (a3)), (4, .inl (a4)), (5, .inl (x3)), (6, .inl (x6))]) ok dX1_objectFits_21 (by decide) rfl ?_
  refine tj_aload_n ok 1 dX1_objectFits_23 rfl rfl ?_
  refine tj_getR (k := 0) ok fcX5 (by decide) wm_875 rfl (Or.inl ⟨_, rfl⟩) dX1_objectFits_24 e7 ?_
  refine tj_iload_n ok 3 dX1_objectFits_27 rfl rfl ?_
  refine tj_callV (rest := ([] : List TV).map (vl g)) (as := [.inl (a3)]) ok lev (by omega) fcX0.1 (by decide) rfl (of_if e8).1 (k9 g) (CaX.of en (by omega)) kn_X0_isCellAction wm_877 wm_87 wm_88 (rs_ok (Nat.le_of_ble_eq_true rfl)) rfl rfl dX1_objectFits_28 ?_
  refine tj_if_ne (tgt := 45) ok dX1_objectFits_31 (by decide) (fun hc => ?_) (fun hc => ?_)
  · rw [if_neg hc] at hf
    refine tj_sub (lv' := [(0, .inr (.inr (a0))), (1, .inr (.inr (a1))), (2, .inr (.inr (a2))), (5, .inl (x3)), (6, .inl (x6))]) [0, 1, 2, 5, 6] rfl ?_
    exact (q_X1_objectFits_45 hf).2 X g K ok nmx lev hK en
  · rw [if_pos hc] at hf
    refine tj_sub (lv' := [(0, .inr (.inr (a0))), (5, .inl (x3)), (6, .inl (x6))]) [0, 5, 6] rfl ?_
    exact (q_X1_objectFits_34 hf).2 X g K ok nmx lev hK en
def f_X1_objectFits (a0 : Nat) (a1 : Nat) (a2 : Nat) (a3 : Int32) (a4 : Int32) (h : AH) : Option (Int32 × AH) := b_X1_objectFits_0  a0 a1 a2 a3 a4 h
theorem c_X1_objectFits {a0 : Nat} {a1 : Nat} {a2 : Nat} {a3 : Int32} {a4 : Int32} {h hE : AH} {v : Int32} (hf : f_X1_objectFits a0 a1 a2 a3 a4 h = some (v, hE)) : ∀ g : GT, CM g (3) yX1_objectFits cX1_objectFits 7 (some .boolean) h [.inr (.inr (a0)), .inr (.inr (a1)), .inr (.inr (a2)), .inl (a3), .inl (a4)] hE (some (.inl (v))) :=
  CM.ofJ (by decide) (by show _ ≤ 7; exact Nat.le_of_ble_eq_true rfl) (q_X1_objectFits_0 hf)
/-! ===== LitmusHouse$Likeness.entryFits(LLitmusHouse$Program;LLitmusHouse$Program;II)Z ===== -/
def b_X1_entryFits_143 (s0 : Int32) (h : AH) : Option (Int32 × AH) :=
  ok_z s0 h
set_option maxHeartbeats 4000000 in
set_option maxRecDepth 100000 in
theorem q_X1_entryFits_143 {s0 : Int32} {h hE : AH} {v : Int32} (hf : b_X1_entryFits_143 s0 h = some (v, hE)) : JD cX1_entryFits 7 RX1 "entryFits" (some .boolean) (4) 143 [] [.inl (s0)] h hE (some (.inl (v))) := by
  unfold b_X1_entryFits_143 at hf
  have mE : hp_n h ≤ hp_n hE ∧ hp_s h ≤ hp_s hE := by obtain ⟨-, q⟩ := of_if hf; cases q; exact ⟨Nat.le_refl _, Nat.le_refl _⟩
  refine ⟨by omega, fun X g K ok nmx lev hK en => ?_⟩
  exact tj_zreturn ok hf en dX1_entryFits_143
def b_X1_entryFits_142  (h : AH) : Option (Int32 × AH) :=
  b_X1_entryFits_143 (0 : Int32) h
set_option maxHeartbeats 4000000 in
set_option maxRecDepth 100000 in
theorem q_X1_entryFits_142 {h hE : AH} {v : Int32} (hf : b_X1_entryFits_142  h = some (v, hE)) : JD cX1_entryFits 7 RX1 "entryFits" (some .boolean) (4) 142 [] [] h hE (some (.inl (v))) := by
  unfold b_X1_entryFits_142 at hf
  have J := q_X1_entryFits_143 hf
  have mE := J.1
  refine ⟨by omega, fun X g K ok nmx lev hK en => ?_⟩
  refine tj_iconst (v := 0) ok dX1_entryFits_142 (by decide) ?_
  exact J.2 X g K ok nmx lev hK en
def b_X1_entryFits_138  (h : AH) : Option (Int32 × AH) :=
  b_X1_entryFits_143 (1 : Int32) h
set_option maxHeartbeats 4000000 in
set_option maxRecDepth 100000 in
theorem q_X1_entryFits_138 {h hE : AH} {v : Int32} (hf : b_X1_entryFits_138  h = some (v, hE)) : JD cX1_entryFits 7 RX1 "entryFits" (some .boolean) (4) 138 [] [] h hE (some (.inl (v))) := by
  unfold b_X1_entryFits_138 at hf
  have J := q_X1_entryFits_143 hf
  have mE := J.1
  refine ⟨by omega, fun X g K ok nmx lev hK en => ?_⟩
  refine tj_iconst (v := 1) ok dX1_entryFits_138 (by decide) ?_
  refine tj_goto (tgt := 143) ok dX1_entryFits_139 (by decide) ?_
  exact J.2 X g K ok nmx lev hK en
def b_X1_entryFits_120 (a0 : Nat) (a1 : Nat) (a2 : Nat) (a3 : Int32) (a4 : Int32) (h : AH) : Option (Int32 × AH) :=
  (ok_v h a0 1).bind fun x1 => (f_X1_objectFits a0 a1 a2 (a3 &&& (63 : Int32)) (a4 &&& (63 : Int32)) h).bind fun q2 => if q2.1 = 0 then b_X1_entryFits_142 q2.2 else b_X1_entryFits_138 q2.2
set_option maxHeartbeats 4000000 in
set_option maxRecDepth 100000 in
theorem q_X1_entryFits_120 {a0 : Nat} {a1 : Nat} {a2 : Nat} {a3 : Int32} {a4 : Int32} {h hE : AH} {v : Int32} (hf : b_X1_entryFits_120 a0 a1 a2 a3 a4 h = some (v, hE)) : JD cX1_entryFits 7 RX1 "entryFits" (some .boolean) (4) 120 [(0, .inr (.inr (a0))), (1, .inr (.inr (a1))), (2, .inr (.inr (a2))), (3, .inl (a3)), (4, .inl (a4))] [] h hE (some (.inl (v))) := by
  unfold b_X1_entryFits_120 at hf
  obtain ⟨x1, e1, hf⟩ := bnd hf
  obtain ⟨⟨x2, h2⟩, e2, hf⟩ := bnd hf
  try dsimp only at hf
  have k2 := c_X1_objectFits e2
  have m2 := (k2 default_g).1
  have mE : hp_n h2 ≤ hp_n hE ∧ hp_s h2 ≤ hp_s hE := by
    by_cases hc : x2 = 0
    · rw [if_pos hc] at hf; exact (q_X1_entryFits_142 hf).1
    · rw [if_neg hc] at hf; exact (q_X1_entryFits_138 hf).1
  refine ⟨by omega, fun X g K ok nmx lev hK en => ?_⟩
  refine tj_aload_n ok 0 dX1_entryFits_120 rfl rfl ?_
  refine tj_aload_n ok 1 dX1_entryFits_121 rfl rfl ?_
  refine tj_aload_n ok 2 dX1_entryFits_122 rfl rfl ?_
  refine tj_iload_n ok 3 dX1_entryFits_123 rfl rfl ?_
  refine tj_bipush (v := 63) ok dX1_entryFits_124 (by decide) ?_
  refine tj_iand ok dX1_entryFits_126 ?_
  refine tj_iload ok 4 dX1_entryFits_127 rfl ?_
  refine tj_bipush (v := 63) ok dX1_entryFits_129 (by decide) ?_
  refine tj_iand ok dX1_entryFits_131 ?_
  refine tj_callV (rest := ([] : List TV).map (vl g)) (as := [.inr (.inr (a1)), .inr (.inr (a2)), .inl (a3 &&& (63 : Int32)), .inl (a4 &&& (63 : Int32))]) ok lev (by omega) fcX1.1 (by decide) rfl (of_if e1).1 (k2 g) (CaX.of en (by omega)) kn_X1_objectFits wm_879 wm_880 wm_881 (rs_ok (Nat.le_of_ble_eq_true rfl)) rfl rfl dX1_entryFits_132 ?_
  refine tj_if_eq (tgt := 142) ok dX1_entryFits_135 (by decide) (fun hc => ?_) (fun hc => ?_)
  · rw [if_pos hc] at hf
    refine tj_sub (lv' := []) [] rfl ?_
    exact (q_X1_entryFits_142 hf).2 X g K ok nmx lev hK en
  · rw [if_neg hc] at hf
    refine tj_sub (lv' := []) [] rfl ?_
    exact (q_X1_entryFits_138 hf).2 X g K ok nmx lev hK en
def b_X1_entryFits_90 (a0 : Nat) (a1 : Nat) (a2 : Nat) (a3 : Int32) (a4 : Int32) (a5 : Nat) (a6 : Nat) (h : AH) : Option (Int32 × AH) :=
  (g_r h a5 0 2).bind fun x1 => (l_i h x1 (a3 &&& (63 : Int32))).bind fun x2 => (g_r h a6 0 2).bind fun x3 => (l_i h x3 (a4 &&& (63 : Int32))).bind fun x4 => (ok_v h a0 1).bind fun x5 => (f_X1_nameFits a0 (8 : Int32) x2 x4 h).bind fun q6 => if q6.1 = 0 then b_X1_entryFits_142 q6.2 else b_X1_entryFits_120 a0 a1 a2 a3 a4 q6.2
set_option maxHeartbeats 4000000 in
set_option maxRecDepth 100000 in
theorem q_X1_entryFits_90 {a0 : Nat} {a1 : Nat} {a2 : Nat} {a3 : Int32} {a4 : Int32} {a5 : Nat} {a6 : Nat} {h hE : AH} {v : Int32} (hf : b_X1_entryFits_90 a0 a1 a2 a3 a4 a5 a6 h = some (v, hE)) : JD cX1_entryFits 7 RX1 "entryFits" (some .boolean) (4) 90 [(0, .inr (.inr (a0))), (1, .inr (.inr (a1))), (2, .inr (.inr (a2))), (3, .inl (a3)), (4, .inl (a4)), (5, .inr (.inr (a5))), (6, .inr (.inr (a6)))] [] h hE (some (.inl (v))) := by
  unfold b_X1_entryFits_90 at hf
  obtain ⟨x1, e1, hf⟩ := bnd hf
  obtain ⟨x2, e2, hf⟩ := bnd hf
  obtain ⟨x3, e3, hf⟩ := bnd hf
  obtain ⟨x4, e4, hf⟩ := bnd hf
  obtain ⟨x5, e5, hf⟩ := bnd hf
  obtain ⟨⟨x6, h6⟩, e6, hf⟩ := bnd hf
  try dsimp only at hf
  have k6 := c_X1_nameFits e6
  have m6 := (k6 default_g).1
  have mE : hp_n h6 ≤ hp_n hE ∧ hp_s h6 ≤ hp_s hE := by
    by_cases hc : x6 = 0
    · rw [if_pos hc] at hf; exact (q_X1_entryFits_142 hf).1
    · rw [if_neg hc] at hf; exact (q_X1_entryFits_120 hf).1
  refine ⟨by omega, fun X g K ok nmx lev hK en => ?_⟩
  refine tj_aload_n ok 0 dX1_entryFits_90 rfl rfl ?_
  refine tj_bipush (v := 8) ok dX1_entryFits_91 (by decide) ?_
  refine tj_aload ok 5 dX1_entryFits_93 rfl ?_
  refine tj_getR (k := 2) ok fcX0 (by decide) wm_882 rfl (Or.inr ⟨_, rfl⟩) dX1_entryFits_95 e1 ?_
  refine tj_iload_n ok 3 dX1_entryFits_98 rfl rfl ?_
  refine tj_bipush (v := 63) ok dX1_entryFits_99 (by decide) ?_
  refine tj_iand ok dX1_entryFits_101 ?_
  refine tj_iaload ok dX1_entryFits_102 e2 ?_
  refine tj_aload ok 6 dX1_entryFits_103 rfl ?_
  refine tj_getR (k := 2) ok fcX0 (by decide) wm_882 rfl (Or.inr ⟨_, rfl⟩) dX1_entryFits_105 e3 ?_
  refine tj_iload ok 4 dX1_entryFits_108 rfl ?_
  refine tj_bipush (v := 63) ok dX1_entryFits_110 (by decide) ?_
  refine tj_iand ok dX1_entryFits_112 ?_
  refine tj_iaload ok dX1_entryFits_113 e4 ?_
  refine tj_callV (rest := ([] : List TV).map (vl g)) (as := [.inl ((8 : Int32)), .inl (x2), .inl (x4)]) ok lev (by omega) fcX1.1 (by decide) rfl (of_if e5).1 (k6 g) (CaX.of en (by omega)) kn_X1_nameFits wm_871 wm_872 wm_873 (rs_ok (Nat.le_of_ble_eq_true rfl)) rfl rfl dX1_entryFits_114 ?_
  refine tj_if_eq (tgt := 142) ok dX1_entryFits_117 (by decide) (fun hc => ?_) (fun hc => ?_)
  · rw [if_pos hc] at hf
    refine tj_sub (lv' := []) [] rfl ?_
    exact (q_X1_entryFits_142 hf).2 X g K ok nmx lev hK en
  · rw [if_neg hc] at hf
    refine tj_sub (lv' := [(0, .inr (.inr (a0))), (1, .inr (.inr (a1))), (2, .inr (.inr (a2))), (3, .inl (a3)), (4, .inl (a4))]) [0, 1, 2, 3, 4] rfl ?_
    exact (q_X1_entryFits_120 hf).2 X g K ok nmx lev hK en
def b_X1_entryFits_60 (a0 : Nat) (a1 : Nat) (a2 : Nat) (a3 : Int32) (a4 : Int32) (a5 : Nat) (a6 : Nat) (h : AH) : Option (Int32 × AH) :=
  (g_r h a5 0 1).bind fun x1 => (l_i h x1 (a3 &&& (63 : Int32))).bind fun x2 => (g_r h a6 0 1).bind fun x3 => (l_i h x3 (a4 &&& (63 : Int32))).bind fun x4 => (ok_v h a0 1).bind fun x5 => (f_X1_nameFits a0 (8 : Int32) x2 x4 h).bind fun q6 => if q6.1 = 0 then b_X1_entryFits_142 q6.2 else b_X1_entryFits_90 a0 a1 a2 a3 a4 a5 a6 q6.2
set_option maxHeartbeats 4000000 in
set_option maxRecDepth 100000 in
theorem q_X1_entryFits_60 {a0 : Nat} {a1 : Nat} {a2 : Nat} {a3 : Int32} {a4 : Int32} {a5 : Nat} {a6 : Nat} {h hE : AH} {v : Int32} (hf : b_X1_entryFits_60 a0 a1 a2 a3 a4 a5 a6 h = some (v, hE)) : JD cX1_entryFits 7 RX1 "entryFits" (some .boolean) (4) 60 [(0, .inr (.inr (a0))), (1, .inr (.inr (a1))), (2, .inr (.inr (a2))), (3, .inl (a3)), (4, .inl (a4)), (5, .inr (.inr (a5))), (6, .inr (.inr (a6)))] [] h hE (some (.inl (v))) := by
  unfold b_X1_entryFits_60 at hf
  obtain ⟨x1, e1, hf⟩ := bnd hf
  obtain ⟨x2, e2, hf⟩ := bnd hf
  obtain ⟨x3, e3, hf⟩ := bnd hf
  obtain ⟨x4, e4, hf⟩ := bnd hf
  obtain ⟨x5, e5, hf⟩ := bnd hf
  obtain ⟨⟨x6, h6⟩, e6, hf⟩ := bnd hf
  try dsimp only at hf
  have k6 := c_X1_nameFits e6
  have m6 := (k6 default_g).1
  have mE : hp_n h6 ≤ hp_n hE ∧ hp_s h6 ≤ hp_s hE := by
    by_cases hc : x6 = 0
    · rw [if_pos hc] at hf; exact (q_X1_entryFits_142 hf).1
    · rw [if_neg hc] at hf; exact (q_X1_entryFits_90 hf).1
  refine ⟨by omega, fun X g K ok nmx lev hK en => ?_⟩
  refine tj_aload_n ok 0 dX1_entryFits_60 rfl rfl ?_
  refine tj_bipush (v := 8) ok dX1_entryFits_61 (by decide) ?_
  refine tj_aload ok 5 dX1_entryFits_63 rfl ?_
  refine tj_getR (k := 1) ok fcX0 (by decide) wm_883 rfl (Or.inr ⟨_, rfl⟩) dX1_entryFits_65 e1 ?_
  refine tj_iload_n ok 3 dX1_entryFits_68 rfl rfl ?_
  refine tj_bipush (v := 63) ok dX1_entryFits_69 (by decide) ?_
  refine tj_iand ok dX1_entryFits_71 ?_
  refine tj_iaload ok dX1_entryFits_72 e2 ?_
  refine tj_aload ok 6 dX1_entryFits_73 rfl ?_
  refine tj_getR (k := 1) ok fcX0 (by decide) wm_883 rfl (Or.inr ⟨_, rfl⟩) dX1_entryFits_75 e3 ?_
  refine tj_iload ok 4 dX1_entryFits_78 rfl ?_
  refine tj_bipush (v := 63) ok dX1_entryFits_80 (by decide) ?_
  refine tj_iand ok dX1_entryFits_82 ?_
  refine tj_iaload ok dX1_entryFits_83 e4 ?_
  refine tj_callV (rest := ([] : List TV).map (vl g)) (as := [.inl ((8 : Int32)), .inl (x2), .inl (x4)]) ok lev (by omega) fcX1.1 (by decide) rfl (of_if e5).1 (k6 g) (CaX.of en (by omega)) kn_X1_nameFits wm_871 wm_872 wm_873 (rs_ok (Nat.le_of_ble_eq_true rfl)) rfl rfl dX1_entryFits_84 ?_
  refine tj_if_eq (tgt := 142) ok dX1_entryFits_87 (by decide) (fun hc => ?_) (fun hc => ?_)
  · rw [if_pos hc] at hf
    refine tj_sub (lv' := []) [] rfl ?_
    exact (q_X1_entryFits_142 hf).2 X g K ok nmx lev hK en
  · rw [if_neg hc] at hf
    exact (q_X1_entryFits_90 hf).2 X g K ok nmx lev hK en
def b_X1_entryFits_36 (a0 : Nat) (a1 : Nat) (a2 : Nat) (a3 : Int32) (a4 : Int32) (a5 : Nat) (a6 : Nat) (h : AH) : Option (Int32 × AH) :=
  (g_r h a5 0 3).bind fun x1 => (l_i h x1 (a3 &&& (63 : Int32))).bind fun x2 => (g_r h a6 0 3).bind fun x3 => (l_i h x3 (a4 &&& (63 : Int32))).bind fun x4 => if x2 = x4 then b_X1_entryFits_60 a0 a1 a2 a3 a4 a5 a6 h else b_X1_entryFits_142 h
set_option maxHeartbeats 4000000 in
set_option maxRecDepth 100000 in
theorem q_X1_entryFits_36 {a0 : Nat} {a1 : Nat} {a2 : Nat} {a3 : Int32} {a4 : Int32} {a5 : Nat} {a6 : Nat} {h hE : AH} {v : Int32} (hf : b_X1_entryFits_36 a0 a1 a2 a3 a4 a5 a6 h = some (v, hE)) : JD cX1_entryFits 7 RX1 "entryFits" (some .boolean) (4) 36 [(0, .inr (.inr (a0))), (1, .inr (.inr (a1))), (2, .inr (.inr (a2))), (3, .inl (a3)), (4, .inl (a4)), (5, .inr (.inr (a5))), (6, .inr (.inr (a6)))] [] h hE (some (.inl (v))) := by
  unfold b_X1_entryFits_36 at hf
  obtain ⟨x1, e1, hf⟩ := bnd hf
  obtain ⟨x2, e2, hf⟩ := bnd hf
  obtain ⟨x3, e3, hf⟩ := bnd hf
  obtain ⟨x4, e4, hf⟩ := bnd hf
  have mE : hp_n h ≤ hp_n hE ∧ hp_s h ≤ hp_s hE := by
    by_cases hc : x2 = x4
    · rw [if_pos hc] at hf; exact (q_X1_entryFits_60 hf).1
    · rw [if_neg hc] at hf; exact (q_X1_entryFits_142 hf).1
  refine ⟨by omega, fun X g K ok nmx lev hK en => ?_⟩
  refine tj_aload ok 5 dX1_entryFits_36 rfl ?_
  refine tj_getR (k := 3) ok fcX0 (by decide) wm_884 rfl (Or.inr ⟨_, rfl⟩) dX1_entryFits_38 e1 ?_
  refine tj_iload_n ok 3 dX1_entryFits_41 rfl rfl ?_
  refine tj_bipush (v := 63) ok dX1_entryFits_42 (by decide) ?_
  refine tj_iand ok dX1_entryFits_44 ?_
  refine tj_iaload ok dX1_entryFits_45 e2 ?_
  refine tj_aload ok 6 dX1_entryFits_46 rfl ?_
  refine tj_getR (k := 3) ok fcX0 (by decide) wm_884 rfl (Or.inr ⟨_, rfl⟩) dX1_entryFits_48 e3 ?_
  refine tj_iload ok 4 dX1_entryFits_51 rfl ?_
  refine tj_bipush (v := 63) ok dX1_entryFits_53 (by decide) ?_
  refine tj_iand ok dX1_entryFits_55 ?_
  refine tj_iaload ok dX1_entryFits_56 e4 ?_
  refine tj_icmp_ne (tgt := 142) ok dX1_entryFits_57 (by decide) (fun hc => ?_) (fun hc => ?_)
  · rw [if_neg hc] at hf
    refine tj_sub (lv' := []) [] rfl ?_
    exact (q_X1_entryFits_142 hf).2 X g K ok nmx lev hK en
  · rw [if_pos hc] at hf
    exact (q_X1_entryFits_60 hf).2 X g K ok nmx lev hK en
def b_X1_entryFits_0 (a0 : Nat) (a1 : Nat) (a2 : Nat) (a3 : Int32) (a4 : Int32) (h : AH) : Option (Int32 × AH) :=
  (g_r h a1 5 0).bind fun x1 => (g_r h a2 5 0).bind fun x2 => (g_r h x1 0 0).bind fun x3 => (l_i h x3 (a3 &&& (63 : Int32))).bind fun x4 => (g_r h x2 0 0).bind fun x5 => (l_i h x5 (a4 &&& (63 : Int32))).bind fun x6 => if x4 = x6 then b_X1_entryFits_36 a0 a1 a2 a3 a4 x1 x2 h else b_X1_entryFits_142 h
set_option maxHeartbeats 4000000 in
set_option maxRecDepth 100000 in
theorem q_X1_entryFits_0 {a0 : Nat} {a1 : Nat} {a2 : Nat} {a3 : Int32} {a4 : Int32} {h hE : AH} {v : Int32} (hf : b_X1_entryFits_0 a0 a1 a2 a3 a4 h = some (v, hE)) : JD cX1_entryFits 7 RX1 "entryFits" (some .boolean) (4) 0 [(0, .inr (.inr (a0))), (1, .inr (.inr (a1))), (2, .inr (.inr (a2))), (3, .inl (a3)), (4, .inl (a4))] [] h hE (some (.inl (v))) := by
  unfold b_X1_entryFits_0 at hf
  obtain ⟨x1, e1, hf⟩ := bnd hf
  obtain ⟨x2, e2, hf⟩ := bnd hf
  obtain ⟨x3, e3, hf⟩ := bnd hf
  obtain ⟨x4, e4, hf⟩ := bnd hf
  obtain ⟨x5, e5, hf⟩ := bnd hf
  obtain ⟨x6, e6, hf⟩ := bnd hf
  have mE : hp_n h ≤ hp_n hE ∧ hp_s h ≤ hp_s hE := by
    by_cases hc : x4 = x6
    · rw [if_pos hc] at hf; exact (q_X1_entryFits_36 hf).1
    · rw [if_neg hc] at hf; exact (q_X1_entryFits_142 hf).1
  refine ⟨by omega, fun X g K ok nmx lev hK en => ?_⟩
  refine tj_aload_n ok 1 dX1_entryFits_0 rfl rfl ?_
  refine tj_getR (k := 0) ok fcX5 (by decide) wm_875 rfl (Or.inl ⟨_, rfl⟩) dX1_entryFits_1 e1 ?_
  refine tj_astore (lv' := [(0, .inr (.inr (a0))), (1, .inr (.inr (a1))), (2, .inr (.inr (a2))), (3, .inl (a3)), (4, .inl (a4)), (5, .inr (.inr (x1)))]) ok dX1_entryFits_4 (by decide) rfl ?_
  refine tj_aload_n ok 2 dX1_entryFits_6 rfl rfl ?_
  refine tj_getR (k := 0) ok fcX5 (by decide) wm_875 rfl (Or.inl ⟨_, rfl⟩) dX1_entryFits_7 e2 ?_
  refine tj_astore (lv' := [(0, .inr (.inr (a0))), (1, .inr (.inr (a1))), (2, .inr (.inr (a2))), (3, .inl (a3)), (4, .inl (a4)), (5, .inr (.inr (x1))), (6, .inr (.inr (x2)))]) ok dX1_entryFits_10 (by decide) rfl ?_
  refine tj_aload ok 5 dX1_entryFits_12 rfl ?_
  refine tj_getR (k := 0) ok fcX0 (by decide) wm_885 rfl (Or.inr ⟨_, rfl⟩) dX1_entryFits_14 e3 ?_
  refine tj_iload_n ok 3 dX1_entryFits_17 rfl rfl ?_
  refine tj_bipush (v := 63) ok dX1_entryFits_18 (by decide) ?_
  refine tj_iand ok dX1_entryFits_20 ?_
  refine tj_iaload ok dX1_entryFits_21 e4 ?_
  refine tj_aload ok 6 dX1_entryFits_22 rfl ?_
  refine tj_getR (k := 0) ok fcX0 (by decide) wm_885 rfl (Or.inr ⟨_, rfl⟩) dX1_entryFits_24 e5 ?_
  refine tj_iload ok 4 dX1_entryFits_27 rfl ?_
  refine tj_bipush (v := 63) ok dX1_entryFits_29 (by decide) ?_
  refine tj_iand ok dX1_entryFits_31 ?_
  refine tj_iaload ok dX1_entryFits_32 e6 ?_
  refine tj_icmp_ne (tgt := 142) ok dX1_entryFits_33 (by decide) (fun hc => ?_) (fun hc => ?_)
  · rw [if_neg hc] at hf
    refine tj_sub (lv' := []) [] rfl ?_
    exact (q_X1_entryFits_142 hf).2 X g K ok nmx lev hK en
  · rw [if_pos hc] at hf
    exact (q_X1_entryFits_36 hf).2 X g K ok nmx lev hK en
def f_X1_entryFits (a0 : Nat) (a1 : Nat) (a2 : Nat) (a3 : Int32) (a4 : Int32) (h : AH) : Option (Int32 × AH) := b_X1_entryFits_0  a0 a1 a2 a3 a4 h
theorem c_X1_entryFits {a0 : Nat} {a1 : Nat} {a2 : Nat} {a3 : Int32} {a4 : Int32} {h hE : AH} {v : Int32} (hf : f_X1_entryFits a0 a1 a2 a3 a4 h = some (v, hE)) : ∀ g : GT, CM g (4) yX1_entryFits cX1_entryFits 7 (some .boolean) h [.inr (.inr (a0)), .inr (.inr (a1)), .inr (.inr (a2)), .inl (a3), .inl (a4)] hE (some (.inl (v))) :=
  CM.ofJ (by decide) (by show _ ≤ 7; exact Nat.le_of_ble_eq_true rfl) (q_X1_entryFits_0 hf)
/-! ===== LitmusHouse$Likeness.threadFits(LLitmusHouse$Program;LLitmusHouse$Program;II)Z ===== -/
def b_X1_threadFits_67  (h : AH) : Option (Int32 × AH) :=
  ok_z (0 : Int32) h
set_option maxHeartbeats 4000000 in
set_option maxRecDepth 100000 in
theorem q_X1_threadFits_67 {h hE : AH} {v : Int32} (hf : b_X1_threadFits_67  h = some (v, hE)) : JD cX1_threadFits 8 RX1 "threadFits" (some .boolean) (5) 67 [] [] h hE (some (.inl (v))) := by
  unfold b_X1_threadFits_67 at hf
  have mE : hp_n h ≤ hp_n hE ∧ hp_s h ≤ hp_s hE := by obtain ⟨-, q⟩ := of_if hf; cases q; exact ⟨Nat.le_refl _, Nat.le_refl _⟩
  refine ⟨by omega, fun X g K ok nmx lev hK en => ?_⟩
  refine tj_iconst (v := 0) ok dX1_threadFits_67 (by decide) ?_
  exact tj_zreturn ok hf en dX1_threadFits_68
def b_X1_threadFits_61 (r3 : Nat → Nat → Nat → Int32 → Int32 → Int32 → AH → Option (Int32 × AH)) (a0 : Nat) (a1 : Nat) (a2 : Nat) (a3 : Int32) (a4 : Int32) (a5 : Int32) (h : AH) : Option (Int32 × AH) :=
  r3 a0 a1 a2 a3 a4 (a5 + (1 : Int32)) h
set_option maxHeartbeats 4000000 in
set_option maxRecDepth 100000 in
theorem q_X1_threadFits_61 {hE : AH} {v : Int32} {r3 : Nat → Nat → Nat → Int32 → Int32 → Int32 → AH → Option (Int32 × AH)} (hr3 : ∀ (b0 : Nat) (b1 : Nat) (b2 : Nat) (b3 : Int32) (b4 : Int32) (b5 : Int32) (h : AH), r3 b0 b1 b2 b3 b4 b5 h = some (v, hE) → JD cX1_threadFits 8 RX1 "threadFits" (some .boolean) (5) 3 [(0, .inr (.inr (b0))), (1, .inr (.inr (b1))), (2, .inr (.inr (b2))), (3, .inl (b3)), (4, .inl (b4)), (5, .inl (b5))] [] h hE (some (.inl (v)))) {a0 : Nat} {a1 : Nat} {a2 : Nat} {a3 : Int32} {a4 : Int32} {a5 : Int32} {h : AH} (hf : b_X1_threadFits_61 r3 a0 a1 a2 a3 a4 a5 h = some (v, hE)) : JD cX1_threadFits 8 RX1 "threadFits" (some .boolean) (5) 61 [(0, .inr (.inr (a0))), (1, .inr (.inr (a1))), (2, .inr (.inr (a2))), (3, .inl (a3)), (4, .inl (a4)), (5, .inl (a5))] [] h hE (some (.inl (v))) := by
  unfold b_X1_threadFits_61 at hf
  have J := hr3 _ _ _ _ _ _ _ hf
  have mE := J.1
  refine ⟨by omega, fun X g K ok nmx lev hK en => ?_⟩
  refine tj_iinc (lv' := [(0, .inr (.inr (a0))), (1, .inr (.inr (a1))), (2, .inr (.inr (a2))), (3, .inl (a3)), (4, .inl (a4)), (5, .inl (a5 + (1 : Int32)))]) ok 5 dX1_threadFits_61 rfl (rfl) (by decide) rfl ?_
  refine tj_goto (tgt := 3) ok dX1_threadFits_64 (by decide) ?_
  exact J.2 X g K ok nmx lev hK en
def b_X1_threadFits_59  (h : AH) : Option (Int32 × AH) :=
  ok_z (1 : Int32) h
set_option maxHeartbeats 4000000 in
set_option maxRecDepth 100000 in
theorem q_X1_threadFits_59 {h hE : AH} {v : Int32} (hf : b_X1_threadFits_59  h = some (v, hE)) : JD cX1_threadFits 8 RX1 "threadFits" (some .boolean) (5) 59 [] [] h hE (some (.inl (v))) := by
  unfold b_X1_threadFits_59 at hf
  have mE : hp_n h ≤ hp_n hE ∧ hp_s h ≤ hp_s hE := by obtain ⟨-, q⟩ := of_if hf; cases q; exact ⟨Nat.le_refl _, Nat.le_refl _⟩
  refine ⟨by omega, fun X g K ok nmx lev hK en => ?_⟩
  refine tj_iconst (v := 1) ok dX1_threadFits_59 (by decide) ?_
  exact tj_zreturn ok hf en dX1_threadFits_60
def b_X1_threadFits_44 (r3 : Nat → Nat → Nat → Int32 → Int32 → Int32 → AH → Option (Int32 × AH)) (a0 : Nat) (a1 : Nat) (a2 : Nat) (a3 : Int32) (a4 : Int32) (a5 : Int32) (a6 : Int32) (h : AH) : Option (Int32 × AH) :=
  (g_r h a1 5 0).bind fun x1 => (g_r h x1 0 0).bind fun x2 => (l_i h x2 a6).bind fun x3 => if x3 = (10 : Int32) then b_X1_threadFits_59 h else b_X1_threadFits_61 r3 a0 a1 a2 a3 a4 a5 h
set_option maxHeartbeats 4000000 in
set_option maxRecDepth 100000 in
theorem q_X1_threadFits_44 {hE : AH} {v : Int32} {r3 : Nat → Nat → Nat → Int32 → Int32 → Int32 → AH → Option (Int32 × AH)} (hr3 : ∀ (b0 : Nat) (b1 : Nat) (b2 : Nat) (b3 : Int32) (b4 : Int32) (b5 : Int32) (h : AH), r3 b0 b1 b2 b3 b4 b5 h = some (v, hE) → JD cX1_threadFits 8 RX1 "threadFits" (some .boolean) (5) 3 [(0, .inr (.inr (b0))), (1, .inr (.inr (b1))), (2, .inr (.inr (b2))), (3, .inl (b3)), (4, .inl (b4)), (5, .inl (b5))] [] h hE (some (.inl (v)))) {a0 : Nat} {a1 : Nat} {a2 : Nat} {a3 : Int32} {a4 : Int32} {a5 : Int32} {a6 : Int32} {h : AH} (hf : b_X1_threadFits_44 r3 a0 a1 a2 a3 a4 a5 a6 h = some (v, hE)) : JD cX1_threadFits 8 RX1 "threadFits" (some .boolean) (5) 44 [(0, .inr (.inr (a0))), (1, .inr (.inr (a1))), (2, .inr (.inr (a2))), (3, .inl (a3)), (4, .inl (a4)), (5, .inl (a5)), (6, .inl (a6))] [] h hE (some (.inl (v))) := by
  unfold b_X1_threadFits_44 at hf
  obtain ⟨x1, e1, hf⟩ := bnd hf
  obtain ⟨x2, e2, hf⟩ := bnd hf
  obtain ⟨x3, e3, hf⟩ := bnd hf
  have mE : hp_n h ≤ hp_n hE ∧ hp_s h ≤ hp_s hE := by
    by_cases hc : x3 = (10 : Int32)
    · rw [if_pos hc] at hf; exact (q_X1_threadFits_59 hf).1
    · rw [if_neg hc] at hf; exact (q_X1_threadFits_61 hr3 hf).1
  refine ⟨by omega, fun X g K ok nmx lev hK en => ?_⟩
  refine tj_aload_n ok 1 dX1_threadFits_44 rfl rfl ?_
  refine tj_getR (k := 0) ok fcX5 (by decide) wm_875 rfl (Or.inl ⟨_, rfl⟩) dX1_threadFits_45 e1 ?_
  refine tj_getR (k := 0) ok fcX0 (by decide) wm_885 rfl (Or.inr ⟨_, rfl⟩) dX1_threadFits_48 e2 ?_
  refine tj_iload ok 6 dX1_threadFits_51 rfl ?_
  refine tj_iaload ok dX1_threadFits_53 e3 ?_
  refine tj_bipush (v := 10) ok dX1_threadFits_54 (by decide) ?_
  refine tj_icmp_ne (tgt := 61) ok dX1_threadFits_56 (by decide) (fun hc => ?_) (fun hc => ?_)
  · rw [if_neg hc] at hf
    refine tj_sub (lv' := [(0, .inr (.inr (a0))), (1, .inr (.inr (a1))), (2, .inr (.inr (a2))), (3, .inl (a3)), (4, .inl (a4)), (5, .inl (a5))]) [0, 1, 2, 3, 4, 5] rfl ?_
    exact (q_X1_threadFits_61 hr3 hf).2 X g K ok nmx lev hK en
  · rw [if_pos hc] at hf
    refine tj_sub (lv' := []) [] rfl ?_
    exact (q_X1_threadFits_59 hf).2 X g K ok nmx lev hK en
def b_X1_threadFits_42  (h : AH) : Option (Int32 × AH) :=
  ok_z (0 : Int32) h
set_option maxHeartbeats 4000000 in
set_option maxRecDepth 100000 in
theorem q_X1_threadFits_42 {h hE : AH} {v : Int32} (hf : b_X1_threadFits_42  h = some (v, hE)) : JD cX1_threadFits 8 RX1 "threadFits" (some .boolean) (5) 42 [] [] h hE (some (.inl (v))) := by
  unfold b_X1_threadFits_42 at hf
  have mE : hp_n h ≤ hp_n hE ∧ hp_s h ≤ hp_s hE := by obtain ⟨-, q⟩ := of_if hf; cases q; exact ⟨Nat.le_refl _, Nat.le_refl _⟩
  refine ⟨by omega, fun X g K ok nmx lev hK en => ?_⟩
  refine tj_iconst (v := 0) ok dX1_threadFits_42 (by decide) ?_
  exact tj_zreturn ok hf en dX1_threadFits_43
def b_X1_threadFits_10 (r3 : Nat → Nat → Nat → Int32 → Int32 → Int32 → AH → Option (Int32 × AH)) (a0 : Nat) (a1 : Nat) (a2 : Nat) (a3 : Int32) (a4 : Int32) (a5 : Int32) (h : AH) : Option (Int32 × AH) :=
  (ok_v h a0 1).bind fun x1 => (f_X1_entryFits a0 a1 a2 ((a3 + a5) &&& (63 : Int32)) ((a4 + a5) &&& (63 : Int32)) h).bind fun q2 => if q2.1 = 0 then b_X1_threadFits_42 q2.2 else b_X1_threadFits_44 r3 a0 a1 a2 a3 a4 a5 ((a3 + a5) &&& (63 : Int32)) q2.2
set_option maxHeartbeats 4000000 in
set_option maxRecDepth 100000 in
theorem q_X1_threadFits_10 {hE : AH} {v : Int32} {r3 : Nat → Nat → Nat → Int32 → Int32 → Int32 → AH → Option (Int32 × AH)} (hr3 : ∀ (b0 : Nat) (b1 : Nat) (b2 : Nat) (b3 : Int32) (b4 : Int32) (b5 : Int32) (h : AH), r3 b0 b1 b2 b3 b4 b5 h = some (v, hE) → JD cX1_threadFits 8 RX1 "threadFits" (some .boolean) (5) 3 [(0, .inr (.inr (b0))), (1, .inr (.inr (b1))), (2, .inr (.inr (b2))), (3, .inl (b3)), (4, .inl (b4)), (5, .inl (b5))] [] h hE (some (.inl (v)))) {a0 : Nat} {a1 : Nat} {a2 : Nat} {a3 : Int32} {a4 : Int32} {a5 : Int32} {h : AH} (hf : b_X1_threadFits_10 r3 a0 a1 a2 a3 a4 a5 h = some (v, hE)) : JD cX1_threadFits 8 RX1 "threadFits" (some .boolean) (5) 10 [(0, .inr (.inr (a0))), (1, .inr (.inr (a1))), (2, .inr (.inr (a2))), (3, .inl (a3)), (4, .inl (a4)), (5, .inl (a5))] [] h hE (some (.inl (v))) := by
  unfold b_X1_threadFits_10 at hf
  obtain ⟨x1, e1, hf⟩ := bnd hf
  obtain ⟨⟨x2, h2⟩, e2, hf⟩ := bnd hf
  try dsimp only at hf
  have k2 := c_X1_entryFits e2
  have m2 := (k2 default_g).1
  have mE : hp_n h2 ≤ hp_n hE ∧ hp_s h2 ≤ hp_s hE := by
    by_cases hc : x2 = 0
    · rw [if_pos hc] at hf; exact (q_X1_threadFits_42 hf).1
    · rw [if_neg hc] at hf; exact (q_X1_threadFits_44 hr3 hf).1
  refine ⟨by omega, fun X g K ok nmx lev hK en => ?_⟩
  refine tj_iload_n ok 3 dX1_threadFits_10 rfl rfl ?_
  refine tj_iload ok 5 dX1_threadFits_11 rfl ?_
  refine tj_iadd ok dX1_threadFits_13 ?_
  refine tj_bipush (v := 63) ok dX1_threadFits_14 (by decide) ?_
  refine tj_iand ok dX1_threadFits_16 ?_
  refine tj_istore (lv' := [(0, .inr (.inr (a0))), (1, .inr (.inr (a1))), (2, .inr (.inr (a2))), (3, .inl (a3)), (4, .inl (a4)), (5, .inl (a5)), (6, .inl ((a3 + a5) &&& (63 : Int32)))]) ok dX1_threadFits_17 (by decide) rfl ?_
  refine tj_iload ok 4 dX1_threadFits_19 rfl ?_
  refine tj_iload ok 5 dX1_threadFits_21 rfl ?_
  refine tj_iadd ok dX1_threadFits_23 ?_
  refine tj_bipush (v := 63) ok dX1_threadFits_24 (by decide) ?_
  refine tj_iand ok dX1_threadFits_26 ?_
  refine tj_istore (lv' := [(0, .inr (.inr (a0))), (1, .inr (.inr (a1))), (2, .inr (.inr (a2))), (3, .inl (a3)), (4, .inl (a4)), (5, .inl (a5)), (6, .inl ((a3 + a5) &&& (63 : Int32))), (7, .inl ((a4 + a5) &&& (63 : Int32)))]) ok dX1_threadFits_27 (by decide) rfl ?_
  refine tj_aload_n ok 0 dX1_threadFits_29 rfl rfl ?_
  refine tj_aload_n ok 1 dX1_threadFits_30 rfl rfl ?_
  refine tj_aload_n ok 2 dX1_threadFits_31 rfl rfl ?_
  refine tj_iload ok 6 dX1_threadFits_32 rfl ?_
  refine tj_iload ok 7 dX1_threadFits_34 rfl ?_
  refine tj_callV (rest := ([] : List TV).map (vl g)) (as := [.inr (.inr (a1)), .inr (.inr (a2)), .inl ((a3 + a5) &&& (63 : Int32)), .inl ((a4 + a5) &&& (63 : Int32))]) ok lev (by omega) fcX1.1 (by decide) rfl (of_if e1).1 (k2 g) (CaX.of en (by omega)) kn_X1_entryFits wm_887 wm_888 wm_889 (rs_ok (Nat.le_of_ble_eq_true rfl)) rfl rfl dX1_threadFits_36 ?_
  refine tj_if_ne (tgt := 44) ok dX1_threadFits_39 (by decide) (fun hc => ?_) (fun hc => ?_)
  · rw [if_neg hc] at hf
    refine tj_sub (lv' := [(0, .inr (.inr (a0))), (1, .inr (.inr (a1))), (2, .inr (.inr (a2))), (3, .inl (a3)), (4, .inl (a4)), (5, .inl (a5)), (6, .inl ((a3 + a5) &&& (63 : Int32)))]) [0, 1, 2, 3, 4, 5, 6] rfl ?_
    exact (q_X1_threadFits_44 hr3 hf).2 X g K ok nmx lev hK en
  · rw [if_pos hc] at hf
    refine tj_sub (lv' := []) [] rfl ?_
    exact (q_X1_threadFits_42 hf).2 X g K ok nmx lev hK en
def b_X1_threadFits_3 (r3 : Nat → Nat → Nat → Int32 → Int32 → Int32 → AH → Option (Int32 × AH)) (a0 : Nat) (a1 : Nat) (a2 : Nat) (a3 : Int32) (a4 : Int32) (a5 : Int32) (h : AH) : Option (Int32 × AH) :=
  if (64 : Int32) ≤ a5 then b_X1_threadFits_67 h else b_X1_threadFits_10 r3 a0 a1 a2 a3 a4 a5 h
set_option maxHeartbeats 4000000 in
set_option maxRecDepth 100000 in
theorem q_X1_threadFits_3 {hE : AH} {v : Int32} {r3 : Nat → Nat → Nat → Int32 → Int32 → Int32 → AH → Option (Int32 × AH)} (hr3 : ∀ (b0 : Nat) (b1 : Nat) (b2 : Nat) (b3 : Int32) (b4 : Int32) (b5 : Int32) (h : AH), r3 b0 b1 b2 b3 b4 b5 h = some (v, hE) → JD cX1_threadFits 8 RX1 "threadFits" (some .boolean) (5) 3 [(0, .inr (.inr (b0))), (1, .inr (.inr (b1))), (2, .inr (.inr (b2))), (3, .inl (b3)), (4, .inl (b4)), (5, .inl (b5))] [] h hE (some (.inl (v)))) {a0 : Nat} {a1 : Nat} {a2 : Nat} {a3 : Int32} {a4 : Int32} {a5 : Int32} {h : AH} (hf : b_X1_threadFits_3 r3 a0 a1 a2 a3 a4 a5 h = some (v, hE)) : JD cX1_threadFits 8 RX1 "threadFits" (some .boolean) (5) 3 [(0, .inr (.inr (a0))), (1, .inr (.inr (a1))), (2, .inr (.inr (a2))), (3, .inl (a3)), (4, .inl (a4)), (5, .inl (a5))] [] h hE (some (.inl (v))) := by
  unfold b_X1_threadFits_3 at hf
  have mE : hp_n h ≤ hp_n hE ∧ hp_s h ≤ hp_s hE := by
    by_cases hc : (64 : Int32) ≤ a5
    · rw [if_pos hc] at hf; exact (q_X1_threadFits_67 hf).1
    · rw [if_neg hc] at hf; exact (q_X1_threadFits_10 hr3 hf).1
  refine ⟨by omega, fun X g K ok nmx lev hK en => ?_⟩
  refine tj_iload ok 5 dX1_threadFits_3 rfl ?_
  refine tj_bipush (v := 64) ok dX1_threadFits_5 (by decide) ?_
  refine tj_icmp_ge (tgt := 67) ok dX1_threadFits_7 (by decide) (fun hc => ?_) (fun hc => ?_)
  · rw [if_pos hc] at hf
    refine tj_sub (lv' := []) [] rfl ?_
    exact (q_X1_threadFits_67 hf).2 X g K ok nmx lev hK en
  · rw [if_neg hc] at hf
    exact (q_X1_threadFits_10 hr3 hf).2 X g K ok nmx lev hK en
def l_X1_threadFits_3 : Nat → Nat → Nat → Nat → Int32 → Int32 → Int32 → AH → Option (Int32 × AH)
  | 0 => fun _ _ _ _ _ _ _ => none
  | n + 1 => fun a0 a1 a2 a3 a4 a5 h => b_X1_threadFits_3 (l_X1_threadFits_3 n) a0 a1 a2 a3 a4 a5 h
theorem ql_X1_threadFits_3 {n : Nat} {a0 : Nat} {a1 : Nat} {a2 : Nat} {a3 : Int32} {a4 : Int32} {a5 : Int32} {h hE : AH} {v : Int32} (hf : l_X1_threadFits_3 n a0 a1 a2 a3 a4 a5 h = some (v, hE)) : JD cX1_threadFits 8 RX1 "threadFits" (some .boolean) (5) 3 [(0, .inr (.inr (a0))), (1, .inr (.inr (a1))), (2, .inr (.inr (a2))), (3, .inl (a3)), (4, .inl (a4)), (5, .inl (a5))] [] h hE (some (.inl (v))) := by
  induction n generalizing a0 a1 a2 a3 a4 a5 h with
  | zero => cases hf
  | succ n ih => exact q_X1_threadFits_3 (fun _ _ _ _ _ _ _ hf => ih hf) hf
def b_X1_threadFits_0 (a0 : Nat) (a1 : Nat) (a2 : Nat) (a3 : Int32) (a4 : Int32) (h : AH) : Option (Int32 × AH) :=
  l_X1_threadFits_3 fu_ a0 a1 a2 a3 a4 (0 : Int32) h
set_option maxHeartbeats 4000000 in
set_option maxRecDepth 100000 in
theorem q_X1_threadFits_0 {a0 : Nat} {a1 : Nat} {a2 : Nat} {a3 : Int32} {a4 : Int32} {h hE : AH} {v : Int32} (hf : b_X1_threadFits_0 a0 a1 a2 a3 a4 h = some (v, hE)) : JD cX1_threadFits 8 RX1 "threadFits" (some .boolean) (5) 0 [(0, .inr (.inr (a0))), (1, .inr (.inr (a1))), (2, .inr (.inr (a2))), (3, .inl (a3)), (4, .inl (a4))] [] h hE (some (.inl (v))) := by
  unfold b_X1_threadFits_0 at hf
  have J := ql_X1_threadFits_3 hf
  have mE := J.1
  refine ⟨by omega, fun X g K ok nmx lev hK en => ?_⟩
  refine tj_iconst (v := 0) ok dX1_threadFits_0 (by decide) ?_
  refine tj_istore (lv' := [(0, .inr (.inr (a0))), (1, .inr (.inr (a1))), (2, .inr (.inr (a2))), (3, .inl (a3)), (4, .inl (a4)), (5, .inl ((0 : Int32)))]) ok dX1_threadFits_1 (by decide) rfl ?_
  exact J.2 X g K ok nmx lev hK en
def f_X1_threadFits (a0 : Nat) (a1 : Nat) (a2 : Nat) (a3 : Int32) (a4 : Int32) (h : AH) : Option (Int32 × AH) := b_X1_threadFits_0  a0 a1 a2 a3 a4 h
theorem c_X1_threadFits {a0 : Nat} {a1 : Nat} {a2 : Nat} {a3 : Int32} {a4 : Int32} {h hE : AH} {v : Int32} (hf : f_X1_threadFits a0 a1 a2 a3 a4 h = some (v, hE)) : ∀ g : GT, CM g (5) yX1_threadFits cX1_threadFits 8 (some .boolean) h [.inr (.inr (a0)), .inr (.inr (a1)), .inr (.inr (a2)), .inl (a3), .inl (a4)] hE (some (.inl (v))) :=
  CM.ofJ (by decide) (by show _ ≤ 8; exact Nat.le_of_ble_eq_true rfl) (q_X1_threadFits_0 hf)
/-! ===== LitmusHouse$Likeness.fits(LLitmusHouse$Program;LLitmusHouse$Program;I)Z ===== -/
def b_X1_fits_88  (h : AH) : Option (Int32 × AH) :=
  ok_z (1 : Int32) h
set_option maxHeartbeats 4000000 in
set_option maxRecDepth 100000 in
theorem q_X1_fits_88 {h hE : AH} {v : Int32} (hf : b_X1_fits_88  h = some (v, hE)) : JD cX1_fits 7 RX1 "fits" (some .boolean) (6) 88 [] [] h hE (some (.inl (v))) := by
  unfold b_X1_fits_88 at hf
  have mE : hp_n h ≤ hp_n hE ∧ hp_s h ≤ hp_s hE := by obtain ⟨-, q⟩ := of_if hf; cases q; exact ⟨Nat.le_refl _, Nat.le_refl _⟩
  refine ⟨by omega, fun X g K ok nmx lev hK en => ?_⟩
  refine tj_iconst (v := 1) ok dX1_fits_88 (by decide) ?_
  exact tj_zreturn ok hf en dX1_fits_89
def b_X1_fits_82 (r19 : Nat → Nat → Nat → Int32 → Int32 → AH → Option (Int32 × AH)) (a0 : Nat) (a1 : Nat) (a2 : Nat) (a3 : Int32) (a4 : Int32) (h : AH) : Option (Int32 × AH) :=
  r19 a0 a1 a2 a3 (a4 + (1 : Int32)) h
set_option maxHeartbeats 4000000 in
set_option maxRecDepth 100000 in
theorem q_X1_fits_82 {hE : AH} {v : Int32} {r19 : Nat → Nat → Nat → Int32 → Int32 → AH → Option (Int32 × AH)} (hr19 : ∀ (b0 : Nat) (b1 : Nat) (b2 : Nat) (b3 : Int32) (b4 : Int32) (h : AH), r19 b0 b1 b2 b3 b4 h = some (v, hE) → JD cX1_fits 7 RX1 "fits" (some .boolean) (6) 19 [(0, .inr (.inr (b0))), (1, .inr (.inr (b1))), (2, .inr (.inr (b2))), (3, .inl (b3)), (4, .inl (b4))] [] h hE (some (.inl (v)))) {a0 : Nat} {a1 : Nat} {a2 : Nat} {a3 : Int32} {a4 : Int32} {h : AH} (hf : b_X1_fits_82 r19 a0 a1 a2 a3 a4 h = some (v, hE)) : JD cX1_fits 7 RX1 "fits" (some .boolean) (6) 82 [(0, .inr (.inr (a0))), (1, .inr (.inr (a1))), (2, .inr (.inr (a2))), (3, .inl (a3)), (4, .inl (a4))] [] h hE (some (.inl (v))) := by
  unfold b_X1_fits_82 at hf
  have J := hr19 _ _ _ _ _ _ hf
  have mE := J.1
  refine ⟨by omega, fun X g K ok nmx lev hK en => ?_⟩
  refine tj_iinc (lv' := [(0, .inr (.inr (a0))), (1, .inr (.inr (a1))), (2, .inr (.inr (a2))), (3, .inl (a3)), (4, .inl (a4 + (1 : Int32)))]) ok 4 dX1_fits_82 rfl (rfl) (by decide) rfl ?_
  refine tj_goto (tgt := 19) ok dX1_fits_85 (by decide) ?_
  exact J.2 X g K ok nmx lev hK en
def b_X1_fits_80  (h : AH) : Option (Int32 × AH) :=
  ok_z (0 : Int32) h
set_option maxHeartbeats 4000000 in
set_option maxRecDepth 100000 in
theorem q_X1_fits_80 {h hE : AH} {v : Int32} (hf : b_X1_fits_80  h = some (v, hE)) : JD cX1_fits 7 RX1 "fits" (some .boolean) (6) 80 [] [] h hE (some (.inl (v))) := by
  unfold b_X1_fits_80 at hf
  have mE : hp_n h ≤ hp_n hE ∧ hp_s h ≤ hp_s hE := by obtain ⟨-, q⟩ := of_if hf; cases q; exact ⟨Nat.le_refl _, Nat.le_refl _⟩
  refine ⟨by omega, fun X g K ok nmx lev hK en => ?_⟩
  refine tj_iconst (v := 0) ok dX1_fits_80 (by decide) ?_
  exact tj_zreturn ok hf en dX1_fits_81
def b_X1_fits_37 (r19 : Nat → Nat → Nat → Int32 → Int32 → AH → Option (Int32 × AH)) (a0 : Nat) (a1 : Nat) (a2 : Nat) (a3 : Int32) (a4 : Int32) (h : AH) : Option (Int32 × AH) :=
  (g_r h a1 5 0).bind fun x1 => (g_r h x1 0 7).bind fun x2 => (l_i h x2 a4).bind fun x3 => (g_r h a2 5 0).bind fun x4 => (g_r h x4 0 7).bind fun x5 => (l_i h x5 ((a3 >>> (((2 : Int32) * a4) &&& 31)) &&& (3 : Int32))).bind fun x6 => (ok_v h a0 1).bind fun x7 => (f_X1_threadFits a0 a1 a2 x3 x6 h).bind fun q8 => if q8.1 = 0 then b_X1_fits_80 q8.2 else b_X1_fits_82 r19 a0 a1 a2 a3 a4 q8.2
set_option maxHeartbeats 4000000 in
set_option maxRecDepth 100000 in
theorem q_X1_fits_37 {hE : AH} {v : Int32} {r19 : Nat → Nat → Nat → Int32 → Int32 → AH → Option (Int32 × AH)} (hr19 : ∀ (b0 : Nat) (b1 : Nat) (b2 : Nat) (b3 : Int32) (b4 : Int32) (h : AH), r19 b0 b1 b2 b3 b4 h = some (v, hE) → JD cX1_fits 7 RX1 "fits" (some .boolean) (6) 19 [(0, .inr (.inr (b0))), (1, .inr (.inr (b1))), (2, .inr (.inr (b2))), (3, .inl (b3)), (4, .inl (b4))] [] h hE (some (.inl (v)))) {a0 : Nat} {a1 : Nat} {a2 : Nat} {a3 : Int32} {a4 : Int32} {h : AH} (hf : b_X1_fits_37 r19 a0 a1 a2 a3 a4 h = some (v, hE)) : JD cX1_fits 7 RX1 "fits" (some .boolean) (6) 37 [(0, .inr (.inr (a0))), (1, .inr (.inr (a1))), (2, .inr (.inr (a2))), (3, .inl (a3)), (4, .inl (a4))] [] h hE (some (.inl (v))) := by
  unfold b_X1_fits_37 at hf
  obtain ⟨x1, e1, hf⟩ := bnd hf
  obtain ⟨x2, e2, hf⟩ := bnd hf
  obtain ⟨x3, e3, hf⟩ := bnd hf
  obtain ⟨x4, e4, hf⟩ := bnd hf
  obtain ⟨x5, e5, hf⟩ := bnd hf
  obtain ⟨x6, e6, hf⟩ := bnd hf
  obtain ⟨x7, e7, hf⟩ := bnd hf
  obtain ⟨⟨x8, h8⟩, e8, hf⟩ := bnd hf
  try dsimp only at hf
  have k8 := c_X1_threadFits e8
  have m8 := (k8 default_g).1
  have mE : hp_n h8 ≤ hp_n hE ∧ hp_s h8 ≤ hp_s hE := by
    by_cases hc : x8 = 0
    · rw [if_pos hc] at hf; exact (q_X1_fits_80 hf).1
    · rw [if_neg hc] at hf; exact (q_X1_fits_82 hr19 hf).1
  refine ⟨by omega, fun X g K ok nmx lev hK en => ?_⟩
  refine tj_aload_n ok 1 dX1_fits_37 rfl rfl ?_
  refine tj_getR (k := 0) ok fcX5 (by decide) wm_875 rfl (Or.inl ⟨_, rfl⟩) dX1_fits_38 e1 ?_
  refine tj_getR (k := 7) ok fcX0 (by decide) wm_891 rfl (Or.inr ⟨_, rfl⟩) dX1_fits_41 e2 ?_
  refine tj_iload ok 4 dX1_fits_44 rfl ?_
  refine tj_iaload ok dX1_fits_46 e3 ?_
  refine tj_istore (lv' := [(0, .inr (.inr (a0))), (1, .inr (.inr (a1))), (2, .inr (.inr (a2))), (3, .inl (a3)), (4, .inl (a4)), (5, .inl (x3))]) ok dX1_fits_47 (by decide) rfl ?_
  refine tj_aload_n ok 2 dX1_fits_49 rfl rfl ?_
  refine tj_getR (k := 0) ok fcX5 (by decide) wm_875 rfl (Or.inl ⟨_, rfl⟩) dX1_fits_50 e4 ?_
  refine tj_getR (k := 7) ok fcX0 (by decide) wm_891 rfl (Or.inr ⟨_, rfl⟩) dX1_fits_53 e5 ?_
  refine tj_iload_n ok 3 dX1_fits_56 rfl rfl ?_
  refine tj_iconst (v := 2) ok dX1_fits_57 (by decide) ?_
  refine tj_iload ok 4 dX1_fits_58 rfl ?_
  refine tj_imul ok dX1_fits_60 ?_
  refine tj_ishr ok dX1_fits_61 ?_
  refine tj_iconst (v := 3) ok dX1_fits_62 (by decide) ?_
  refine tj_iand ok dX1_fits_63 ?_
  refine tj_iaload ok dX1_fits_64 e6 ?_
  refine tj_istore (lv' := [(0, .inr (.inr (a0))), (1, .inr (.inr (a1))), (2, .inr (.inr (a2))), (3, .inl (a3)), (4, .inl (a4)), (5, .inl (x3)), (6, .inl (x6))]) ok dX1_fits_65 (by decide) rfl ?_
  refine tj_aload_n ok 0 dX1_fits_67 rfl rfl ?_
  refine tj_aload_n ok 1 dX1_fits_68 rfl rfl ?_
  refine tj_aload_n ok 2 dX1_fits_69 rfl rfl ?_
  refine tj_iload ok 5 dX1_fits_70 rfl ?_
  refine tj_iload ok 6 dX1_fits_72 rfl ?_
  refine tj_callV (rest := ([] : List TV).map (vl g)) (as := [.inr (.inr (a1)), .inr (.inr (a2)), .inl (x3), .inl (x6)]) ok lev (by omega) fcX1.1 (by decide) rfl (of_if e7).1 (k8 g) (CaX.of en (by omega)) kn_X1_threadFits wm_892 wm_893 wm_894 (rs_ok (Nat.le_of_ble_eq_true rfl)) rfl rfl dX1_fits_74 ?_
  refine tj_if_ne (tgt := 82) ok dX1_fits_77 (by decide) (fun hc => ?_) (fun hc => ?_)
  · rw [if_neg hc] at hf
    refine tj_sub (lv' := [(0, .inr (.inr (a0))), (1, .inr (.inr (a1))), (2, .inr (.inr (a2))), (3, .inl (a3)), (4, .inl (a4))]) [0, 1, 2, 3, 4] rfl ?_
    exact (q_X1_fits_82 hr19 hf).2 X g K ok nmx lev hK en
  · rw [if_pos hc] at hf
    refine tj_sub (lv' := []) [] rfl ?_
    exact (q_X1_fits_80 hf).2 X g K ok nmx lev hK en
def b_X1_fits_31 (r19 : Nat → Nat → Nat → Int32 → Int32 → AH → Option (Int32 × AH)) (a0 : Nat) (a1 : Nat) (a2 : Nat) (a3 : Int32) (a4 : Int32) (h : AH) : Option (Int32 × AH) :=
  if (4 : Int32) ≤ a4 then b_X1_fits_88 h else b_X1_fits_37 r19 a0 a1 a2 a3 a4 h
set_option maxHeartbeats 4000000 in
set_option maxRecDepth 100000 in
theorem q_X1_fits_31 {hE : AH} {v : Int32} {r19 : Nat → Nat → Nat → Int32 → Int32 → AH → Option (Int32 × AH)} (hr19 : ∀ (b0 : Nat) (b1 : Nat) (b2 : Nat) (b3 : Int32) (b4 : Int32) (h : AH), r19 b0 b1 b2 b3 b4 h = some (v, hE) → JD cX1_fits 7 RX1 "fits" (some .boolean) (6) 19 [(0, .inr (.inr (b0))), (1, .inr (.inr (b1))), (2, .inr (.inr (b2))), (3, .inl (b3)), (4, .inl (b4))] [] h hE (some (.inl (v)))) {a0 : Nat} {a1 : Nat} {a2 : Nat} {a3 : Int32} {a4 : Int32} {h : AH} (hf : b_X1_fits_31 r19 a0 a1 a2 a3 a4 h = some (v, hE)) : JD cX1_fits 7 RX1 "fits" (some .boolean) (6) 31 [(0, .inr (.inr (a0))), (1, .inr (.inr (a1))), (2, .inr (.inr (a2))), (3, .inl (a3)), (4, .inl (a4))] [] h hE (some (.inl (v))) := by
  unfold b_X1_fits_31 at hf
  have mE : hp_n h ≤ hp_n hE ∧ hp_s h ≤ hp_s hE := by
    by_cases hc : (4 : Int32) ≤ a4
    · rw [if_pos hc] at hf; exact (q_X1_fits_88 hf).1
    · rw [if_neg hc] at hf; exact (q_X1_fits_37 hr19 hf).1
  refine ⟨by omega, fun X g K ok nmx lev hK en => ?_⟩
  refine tj_iload ok 4 dX1_fits_31 rfl ?_
  refine tj_iconst (v := 4) ok dX1_fits_33 (by decide) ?_
  refine tj_icmp_ge (tgt := 88) ok dX1_fits_34 (by decide) (fun hc => ?_) (fun hc => ?_)
  · rw [if_pos hc] at hf
    refine tj_sub (lv' := []) [] rfl ?_
    exact (q_X1_fits_88 hf).2 X g K ok nmx lev hK en
  · rw [if_neg hc] at hf
    exact (q_X1_fits_37 hr19 hf).2 X g K ok nmx lev hK en
def b_X1_fits_19 (r19 : Nat → Nat → Nat → Int32 → Int32 → AH → Option (Int32 × AH)) (a0 : Nat) (a1 : Nat) (a2 : Nat) (a3 : Int32) (a4 : Int32) (h : AH) : Option (Int32 × AH) :=
  (g_r h a1 5 0).bind fun x1 => (g_i h x1 0 11).bind fun x2 => if x2 ≤ a4 then b_X1_fits_88 h else b_X1_fits_31 r19 a0 a1 a2 a3 a4 h
set_option maxHeartbeats 4000000 in
set_option maxRecDepth 100000 in
theorem q_X1_fits_19 {hE : AH} {v : Int32} {r19 : Nat → Nat → Nat → Int32 → Int32 → AH → Option (Int32 × AH)} (hr19 : ∀ (b0 : Nat) (b1 : Nat) (b2 : Nat) (b3 : Int32) (b4 : Int32) (h : AH), r19 b0 b1 b2 b3 b4 h = some (v, hE) → JD cX1_fits 7 RX1 "fits" (some .boolean) (6) 19 [(0, .inr (.inr (b0))), (1, .inr (.inr (b1))), (2, .inr (.inr (b2))), (3, .inl (b3)), (4, .inl (b4))] [] h hE (some (.inl (v)))) {a0 : Nat} {a1 : Nat} {a2 : Nat} {a3 : Int32} {a4 : Int32} {h : AH} (hf : b_X1_fits_19 r19 a0 a1 a2 a3 a4 h = some (v, hE)) : JD cX1_fits 7 RX1 "fits" (some .boolean) (6) 19 [(0, .inr (.inr (a0))), (1, .inr (.inr (a1))), (2, .inr (.inr (a2))), (3, .inl (a3)), (4, .inl (a4))] [] h hE (some (.inl (v))) := by
  unfold b_X1_fits_19 at hf
  obtain ⟨x1, e1, hf⟩ := bnd hf
  obtain ⟨x2, e2, hf⟩ := bnd hf
  have mE : hp_n h ≤ hp_n hE ∧ hp_s h ≤ hp_s hE := by
    by_cases hc : x2 ≤ a4
    · rw [if_pos hc] at hf; exact (q_X1_fits_88 hf).1
    · rw [if_neg hc] at hf; exact (q_X1_fits_31 hr19 hf).1
  refine ⟨by omega, fun X g K ok nmx lev hK en => ?_⟩
  refine tj_iload ok 4 dX1_fits_19 rfl ?_
  refine tj_aload_n ok 1 dX1_fits_21 rfl rfl ?_
  refine tj_getR (k := 0) ok fcX5 (by decide) wm_875 rfl (Or.inl ⟨_, rfl⟩) dX1_fits_22 e1 ?_
  refine tj_getI (k := 11) ok fcX0 (by decide) wm_895 rfl (Or.inl rfl) dX1_fits_25 e2 ?_
  refine tj_icmp_ge (tgt := 88) ok dX1_fits_28 (by decide) (fun hc => ?_) (fun hc => ?_)
  · rw [if_pos hc] at hf
    refine tj_sub (lv' := []) [] rfl ?_
    exact (q_X1_fits_88 hf).2 X g K ok nmx lev hK en
  · rw [if_neg hc] at hf
    exact (q_X1_fits_31 hr19 hf).2 X g K ok nmx lev hK en
def l_X1_fits_19 : Nat → Nat → Nat → Nat → Int32 → Int32 → AH → Option (Int32 × AH)
  | 0 => fun _ _ _ _ _ _ => none
  | n + 1 => fun a0 a1 a2 a3 a4 h => b_X1_fits_19 (l_X1_fits_19 n) a0 a1 a2 a3 a4 h
theorem ql_X1_fits_19 {n : Nat} {a0 : Nat} {a1 : Nat} {a2 : Nat} {a3 : Int32} {a4 : Int32} {h hE : AH} {v : Int32} (hf : l_X1_fits_19 n a0 a1 a2 a3 a4 h = some (v, hE)) : JD cX1_fits 7 RX1 "fits" (some .boolean) (6) 19 [(0, .inr (.inr (a0))), (1, .inr (.inr (a1))), (2, .inr (.inr (a2))), (3, .inl (a3)), (4, .inl (a4))] [] h hE (some (.inl (v))) := by
  induction n generalizing a0 a1 a2 a3 a4 h with
  | zero => cases hf
  | succ n ih => exact q_X1_fits_19 (fun _ _ _ _ _ _ hf => ih hf) hf
def b_X1_fits_0 (a0 : Nat) (a1 : Nat) (a2 : Nat) (a3 : Int32) (h : AH) : Option (Int32 × AH) :=
  (g_r h a0 1 0).bind fun x1 => (f_J7_fill_53178 x1 (-1 : Int32) h).bind fun h2 => (g_r h2 a0 1 1).bind fun x3 => (f_J7_fill_53178 x3 (-1 : Int32) h2).bind fun h4 => l_X1_fits_19 fu_ a0 a1 a2 a3 (0 : Int32) h4
set_option maxHeartbeats 4000000 in
set_option maxRecDepth 100000 in
theorem q_X1_fits_0 {a0 : Nat} {a1 : Nat} {a2 : Nat} {a3 : Int32} {h hE : AH} {v : Int32} (hf : b_X1_fits_0 a0 a1 a2 a3 h = some (v, hE)) : JD cX1_fits 7 RX1 "fits" (some .boolean) (6) 0 [(0, .inr (.inr (a0))), (1, .inr (.inr (a1))), (2, .inr (.inr (a2))), (3, .inl (a3))] [] h hE (some (.inl (v))) := by
  unfold b_X1_fits_0 at hf
  obtain ⟨x1, e1, hf⟩ := bnd hf
  obtain ⟨h2, e2, hf⟩ := bnd hf
  have k2 := c_J7_fill_53178 e2
  have m2 := (k2 default_g).1
  obtain ⟨x3, e3, hf⟩ := bnd hf
  obtain ⟨h4, e4, hf⟩ := bnd hf
  have k4 := c_J7_fill_53178 e4
  have m4 := (k4 default_g).1
  have J := ql_X1_fits_19 hf
  have mE := J.1
  refine ⟨by omega, fun X g K ok nmx lev hK en => ?_⟩
  refine tj_aload_n ok 0 dX1_fits_0 rfl rfl ?_
  refine tj_getR (k := 0) ok fcX1 (by decide) wm_104 rfl (Or.inr ⟨_, rfl⟩) dX1_fits_1 e1 ?_
  refine tj_iconst (v := -1) ok dX1_fits_4 (by decide) ?_
  refine tj_callS (rest := ([] : List TV).map (vl g)) (as := [.inr (.inr (x1)), .inl ((-1 : Int32))]) ok lev (by omega) (k2 g) (CaX.of en (by omega)) kn_J7_fill_53178 wm_896 wm_218 (rs_ok (Nat.le_of_ble_eq_true rfl)) rfl rfl dX1_fits_5 ?_
  refine tj_aload_n ok 0 dX1_fits_8 rfl rfl ?_
  refine tj_getR (k := 1) ok fcX1 (by decide) wm_105 rfl (Or.inr ⟨_, rfl⟩) dX1_fits_9 e3 ?_
  refine tj_iconst (v := -1) ok dX1_fits_12 (by decide) ?_
  refine tj_callS (rest := ([] : List TV).map (vl g)) (as := [.inr (.inr (x3)), .inl ((-1 : Int32))]) ok lev (by omega) (k4 g) (CaX.of en (by omega)) kn_J7_fill_53178 wm_896 wm_218 (rs_ok (Nat.le_of_ble_eq_true rfl)) rfl rfl dX1_fits_13 ?_
  refine tj_iconst (v := 0) ok dX1_fits_16 (by decide) ?_
  refine tj_istore (lv' := [(0, .inr (.inr (a0))), (1, .inr (.inr (a1))), (2, .inr (.inr (a2))), (3, .inl (a3)), (4, .inl ((0 : Int32)))]) ok dX1_fits_17 (by decide) rfl ?_
  exact J.2 X g K ok nmx lev hK en
def f_X1_fits (a0 : Nat) (a1 : Nat) (a2 : Nat) (a3 : Int32) (h : AH) : Option (Int32 × AH) := b_X1_fits_0  a0 a1 a2 a3 h
theorem c_X1_fits {a0 : Nat} {a1 : Nat} {a2 : Nat} {a3 : Int32} {h hE : AH} {v : Int32} (hf : f_X1_fits a0 a1 a2 a3 h = some (v, hE)) : ∀ g : GT, CM g (6) yX1_fits cX1_fits 7 (some .boolean) h [.inr (.inr (a0)), .inr (.inr (a1)), .inr (.inr (a2)), .inl (a3)] hE (some (.inl (v))) :=
  CM.ofJ (by decide) (by show _ ≤ 7; exact Nat.le_of_ble_eq_true rfl) (q_X1_fits_0 hf)
/-! ===== LitmusHouse$Likeness.takesEachThread(II)Z ===== -/
def b_X1_takesEachThread_41 (s0 : Int32) (h : AH) : Option (Int32 × AH) :=
  ok_z s0 h
set_option maxHeartbeats 4000000 in
set_option maxRecDepth 100000 in
theorem q_X1_takesEachThread_41 {s0 : Int32} {h hE : AH} {v : Int32} (hf : b_X1_takesEachThread_41 s0 h = some (v, hE)) : JD cX1_takesEachThread 4 RX1 "takesEachThread" (some .boolean) (2) 41 [] [.inl (s0)] h hE (some (.inl (v))) := by
  unfold b_X1_takesEachThread_41 at hf
  have mE : hp_n h ≤ hp_n hE ∧ hp_s h ≤ hp_s hE := by obtain ⟨-, q⟩ := of_if hf; cases q; exact ⟨Nat.le_refl _, Nat.le_refl _⟩
  refine ⟨by omega, fun X g K ok nmx lev hK en => ?_⟩
  exact tj_zreturn ok hf en dX1_takesEachThread_41
def b_X1_takesEachThread_40  (h : AH) : Option (Int32 × AH) :=
  b_X1_takesEachThread_41 (0 : Int32) h
set_option maxHeartbeats 4000000 in
set_option maxRecDepth 100000 in
theorem q_X1_takesEachThread_40 {h hE : AH} {v : Int32} (hf : b_X1_takesEachThread_40  h = some (v, hE)) : JD cX1_takesEachThread 4 RX1 "takesEachThread" (some .boolean) (2) 40 [] [] h hE (some (.inl (v))) := by
  unfold b_X1_takesEachThread_40 at hf
  have J := q_X1_takesEachThread_41 hf
  have mE := J.1
  refine ⟨by omega, fun X g K ok nmx lev hK en => ?_⟩
  refine tj_iconst (v := 0) ok dX1_takesEachThread_40 (by decide) ?_
  exact J.2 X g K ok nmx lev hK en
def b_X1_takesEachThread_36  (h : AH) : Option (Int32 × AH) :=
  b_X1_takesEachThread_41 (1 : Int32) h
set_option maxHeartbeats 4000000 in
set_option maxRecDepth 100000 in
theorem q_X1_takesEachThread_36 {h hE : AH} {v : Int32} (hf : b_X1_takesEachThread_36  h = some (v, hE)) : JD cX1_takesEachThread 4 RX1 "takesEachThread" (some .boolean) (2) 36 [] [] h hE (some (.inl (v))) := by
  unfold b_X1_takesEachThread_36 at hf
  have J := q_X1_takesEachThread_41 hf
  have mE := J.1
  refine ⟨by omega, fun X g K ok nmx lev hK en => ?_⟩
  refine tj_iconst (v := 1) ok dX1_takesEachThread_36 (by decide) ?_
  refine tj_goto (tgt := 41) ok dX1_takesEachThread_37 (by decide) ?_
  exact J.2 X g K ok nmx lev hK en
def b_X1_takesEachThread_27 (a1 : Int32) (a2 : Int32) (h : AH) : Option (Int32 × AH) :=
  if a2 = (((1 : Int32) <<< (a1 &&& 31)) - (1 : Int32)) then b_X1_takesEachThread_36 h else b_X1_takesEachThread_40 h
set_option maxHeartbeats 4000000 in
set_option maxRecDepth 100000 in
theorem q_X1_takesEachThread_27 {a1 : Int32} {a2 : Int32} {h hE : AH} {v : Int32} (hf : b_X1_takesEachThread_27 a1 a2 h = some (v, hE)) : JD cX1_takesEachThread 4 RX1 "takesEachThread" (some .boolean) (2) 27 [(1, .inl (a1)), (2, .inl (a2))] [] h hE (some (.inl (v))) := by
  unfold b_X1_takesEachThread_27 at hf
  have mE : hp_n h ≤ hp_n hE ∧ hp_s h ≤ hp_s hE := by
    by_cases hc : a2 = (((1 : Int32) <<< (a1 &&& 31)) - (1 : Int32))
    · rw [if_pos hc] at hf; exact (q_X1_takesEachThread_36 hf).1
    · rw [if_neg hc] at hf; exact (q_X1_takesEachThread_40 hf).1
  refine ⟨by omega, fun X g K ok nmx lev hK en => ?_⟩
  refine tj_iload_n ok 1 dX1_takesEachThread_27 rfl rfl ?_
  refine tj_iconst (v := 1) ok dX1_takesEachThread_28 (by decide) ?_
  refine tj_iload_n ok 0 dX1_takesEachThread_29 rfl rfl ?_
  refine tj_ishl ok dX1_takesEachThread_30 ?_
  refine tj_iconst (v := 1) ok dX1_takesEachThread_31 (by decide) ?_
  refine tj_isub ok dX1_takesEachThread_32 ?_
  refine tj_icmp_ne (tgt := 40) ok dX1_takesEachThread_33 (by decide) (fun hc => ?_) (fun hc => ?_)
  · rw [if_neg hc] at hf
    refine tj_sub (lv' := []) [] rfl ?_
    exact (q_X1_takesEachThread_40 hf).2 X g K ok nmx lev hK en
  · rw [if_pos hc] at hf
    refine tj_sub (lv' := []) [] rfl ?_
    exact (q_X1_takesEachThread_36 hf).2 X g K ok nmx lev hK en
def b_X1_takesEachThread_9 (r4 : Int32 → Int32 → Int32 → Int32 → AH → Option (Int32 × AH)) (a0 : Int32) (a1 : Int32) (a2 : Int32) (a3 : Int32) (h : AH) : Option (Int32 × AH) :=
  r4 a0 a1 (a2 ||| ((1 : Int32) <<< (((a0 >>> (((2 : Int32) * a3) &&& 31)) &&& (3 : Int32)) &&& 31))) (a3 + (1 : Int32)) h
set_option maxHeartbeats 4000000 in
set_option maxRecDepth 100000 in
theorem q_X1_takesEachThread_9 {hE : AH} {v : Int32} {r4 : Int32 → Int32 → Int32 → Int32 → AH → Option (Int32 × AH)} (hr4 : ∀ (b0 : Int32) (b1 : Int32) (b2 : Int32) (b3 : Int32) (h : AH), r4 b0 b1 b2 b3 h = some (v, hE) → JD cX1_takesEachThread 4 RX1 "takesEachThread" (some .boolean) (2) 4 [(0, .inl (b0)), (1, .inl (b1)), (2, .inl (b2)), (3, .inl (b3))] [] h hE (some (.inl (v)))) {a0 : Int32} {a1 : Int32} {a2 : Int32} {a3 : Int32} {h : AH} (hf : b_X1_takesEachThread_9 r4 a0 a1 a2 a3 h = some (v, hE)) : JD cX1_takesEachThread 4 RX1 "takesEachThread" (some .boolean) (2) 9 [(0, .inl (a0)), (1, .inl (a1)), (2, .inl (a2)), (3, .inl (a3))] [] h hE (some (.inl (v))) := by
  unfold b_X1_takesEachThread_9 at hf
  have J := hr4 _ _ _ _ _ hf
  have mE := J.1
  refine ⟨by omega, fun X g K ok nmx lev hK en => ?_⟩
  refine tj_iload_n ok 2 dX1_takesEachThread_9 rfl rfl ?_
  refine tj_iconst (v := 1) ok dX1_takesEachThread_10 (by decide) ?_
  refine tj_iload_n ok 0 dX1_takesEachThread_11 rfl rfl ?_
  refine tj_iconst (v := 2) ok dX1_takesEachThread_12 (by decide) ?_
  refine tj_iload_n ok 3 dX1_takesEachThread_13 rfl rfl ?_
  refine tj_imul ok dX1_takesEachThread_14 ?_
  refine tj_ishr ok dX1_takesEachThread_15 ?_
  refine tj_iconst (v := 3) ok dX1_takesEachThread_16 (by decide) ?_
  refine tj_iand ok dX1_takesEachThread_17 ?_
  refine tj_ishl ok dX1_takesEachThread_18 ?_
  refine tj_ior ok dX1_takesEachThread_19 ?_
  refine tj_istore_n (lv' := [(0, .inl (a0)), (1, .inl (a1)), (2, .inl (a2 ||| ((1 : Int32) <<< (((a0 >>> (((2 : Int32) * a3) &&& 31)) &&& (3 : Int32)) &&& 31)))), (3, .inl (a3))]) ok dX1_takesEachThread_20 rfl (by decide) rfl ?_
  refine tj_iinc (lv' := [(0, .inl (a0)), (1, .inl (a1)), (2, .inl (a2 ||| ((1 : Int32) <<< (((a0 >>> (((2 : Int32) * a3) &&& 31)) &&& (3 : Int32)) &&& 31)))), (3, .inl (a3 + (1 : Int32)))]) ok 3 dX1_takesEachThread_21 rfl (rfl) (by decide) rfl ?_
  refine tj_goto (tgt := 4) ok dX1_takesEachThread_24 (by decide) ?_
  exact J.2 X g K ok nmx lev hK en
def b_X1_takesEachThread_4 (r4 : Int32 → Int32 → Int32 → Int32 → AH → Option (Int32 × AH)) (a0 : Int32) (a1 : Int32) (a2 : Int32) (a3 : Int32) (h : AH) : Option (Int32 × AH) :=
  if a1 ≤ a3 then b_X1_takesEachThread_27 a1 a2 h else b_X1_takesEachThread_9 r4 a0 a1 a2 a3 h
set_option maxHeartbeats 4000000 in
set_option maxRecDepth 100000 in
theorem q_X1_takesEachThread_4 {hE : AH} {v : Int32} {r4 : Int32 → Int32 → Int32 → Int32 → AH → Option (Int32 × AH)} (hr4 : ∀ (b0 : Int32) (b1 : Int32) (b2 : Int32) (b3 : Int32) (h : AH), r4 b0 b1 b2 b3 h = some (v, hE) → JD cX1_takesEachThread 4 RX1 "takesEachThread" (some .boolean) (2) 4 [(0, .inl (b0)), (1, .inl (b1)), (2, .inl (b2)), (3, .inl (b3))] [] h hE (some (.inl (v)))) {a0 : Int32} {a1 : Int32} {a2 : Int32} {a3 : Int32} {h : AH} (hf : b_X1_takesEachThread_4 r4 a0 a1 a2 a3 h = some (v, hE)) : JD cX1_takesEachThread 4 RX1 "takesEachThread" (some .boolean) (2) 4 [(0, .inl (a0)), (1, .inl (a1)), (2, .inl (a2)), (3, .inl (a3))] [] h hE (some (.inl (v))) := by
  unfold b_X1_takesEachThread_4 at hf
  have mE : hp_n h ≤ hp_n hE ∧ hp_s h ≤ hp_s hE := by
    by_cases hc : a1 ≤ a3
    · rw [if_pos hc] at hf; exact (q_X1_takesEachThread_27 hf).1
    · rw [if_neg hc] at hf; exact (q_X1_takesEachThread_9 hr4 hf).1
  refine ⟨by omega, fun X g K ok nmx lev hK en => ?_⟩
  refine tj_iload_n ok 3 dX1_takesEachThread_4 rfl rfl ?_
  refine tj_iload_n ok 1 dX1_takesEachThread_5 rfl rfl ?_
  refine tj_icmp_ge (tgt := 27) ok dX1_takesEachThread_6 (by decide) (fun hc => ?_) (fun hc => ?_)
  · rw [if_pos hc] at hf
    refine tj_sub (lv' := [(1, .inl (a1)), (2, .inl (a2))]) [1, 2] rfl ?_
    exact (q_X1_takesEachThread_27 hf).2 X g K ok nmx lev hK en
  · rw [if_neg hc] at hf
    exact (q_X1_takesEachThread_9 hr4 hf).2 X g K ok nmx lev hK en
def l_X1_takesEachThread_4 : Nat → Int32 → Int32 → Int32 → Int32 → AH → Option (Int32 × AH)
  | 0 => fun _ _ _ _ _ => none
  | n + 1 => fun a0 a1 a2 a3 h => b_X1_takesEachThread_4 (l_X1_takesEachThread_4 n) a0 a1 a2 a3 h
theorem ql_X1_takesEachThread_4 {n : Nat} {a0 : Int32} {a1 : Int32} {a2 : Int32} {a3 : Int32} {h hE : AH} {v : Int32} (hf : l_X1_takesEachThread_4 n a0 a1 a2 a3 h = some (v, hE)) : JD cX1_takesEachThread 4 RX1 "takesEachThread" (some .boolean) (2) 4 [(0, .inl (a0)), (1, .inl (a1)), (2, .inl (a2)), (3, .inl (a3))] [] h hE (some (.inl (v))) := by
  induction n generalizing a0 a1 a2 a3 h with
  | zero => cases hf
  | succ n ih => exact q_X1_takesEachThread_4 (fun _ _ _ _ _ hf => ih hf) hf
def b_X1_takesEachThread_0 (a0 : Int32) (a1 : Int32) (h : AH) : Option (Int32 × AH) :=
  l_X1_takesEachThread_4 fu_ a0 a1 (0 : Int32) (0 : Int32) h
set_option maxHeartbeats 4000000 in
set_option maxRecDepth 100000 in
theorem q_X1_takesEachThread_0 {a0 : Int32} {a1 : Int32} {h hE : AH} {v : Int32} (hf : b_X1_takesEachThread_0 a0 a1 h = some (v, hE)) : JD cX1_takesEachThread 4 RX1 "takesEachThread" (some .boolean) (2) 0 [(0, .inl (a0)), (1, .inl (a1))] [] h hE (some (.inl (v))) := by
  unfold b_X1_takesEachThread_0 at hf
  have J := ql_X1_takesEachThread_4 hf
  have mE := J.1
  refine ⟨by omega, fun X g K ok nmx lev hK en => ?_⟩
  refine tj_iconst (v := 0) ok dX1_takesEachThread_0 (by decide) ?_
  refine tj_istore_n (lv' := [(0, .inl (a0)), (1, .inl (a1)), (2, .inl ((0 : Int32)))]) ok dX1_takesEachThread_1 rfl (by decide) rfl ?_
  refine tj_iconst (v := 0) ok dX1_takesEachThread_2 (by decide) ?_
  refine tj_istore_n (lv' := [(0, .inl (a0)), (1, .inl (a1)), (2, .inl ((0 : Int32))), (3, .inl ((0 : Int32)))]) ok dX1_takesEachThread_3 rfl (by decide) rfl ?_
  exact J.2 X g K ok nmx lev hK en
def f_X1_takesEachThread (a0 : Int32) (a1 : Int32) (h : AH) : Option (Int32 × AH) := b_X1_takesEachThread_0  a0 a1 h
theorem c_X1_takesEachThread {a0 : Int32} {a1 : Int32} {h hE : AH} {v : Int32} (hf : f_X1_takesEachThread a0 a1 h = some (v, hE)) : ∀ g : GT, CM g (2) yX1_takesEachThread cX1_takesEachThread 4 (some .boolean) h [.inl (a0), .inl (a1)] hE (some (.inl (v))) :=
  CM.ofJ (by decide) (by show _ ≤ 4; exact Nat.le_of_ble_eq_true rfl) (q_X1_takesEachThread_0 hf)
/-! ===== LitmusHouse$Likeness.holds(LLitmusHouse$Program;LLitmusHouse$Program;)Z ===== -/
def b_X1_holds_36  (h : AH) : Option (Int32 × AH) :=
  ok_z (0 : Int32) h
set_option maxHeartbeats 4000000 in
set_option maxRecDepth 100000 in
theorem q_X1_holds_36 {h hE : AH} {v : Int32} (hf : b_X1_holds_36  h = some (v, hE)) : JD cX1_holds 5 RX1 "holds" (some .boolean) (7) 36 [] [] h hE (some (.inl (v))) := by
  unfold b_X1_holds_36 at hf
  have mE : hp_n h ≤ hp_n hE ∧ hp_s h ≤ hp_s hE := by obtain ⟨-, q⟩ := of_if hf; cases q; exact ⟨Nat.le_refl _, Nat.le_refl _⟩
  refine ⟨by omega, fun X g K ok nmx lev hK en => ?_⟩
  refine tj_iconst (v := 0) ok dX1_holds_36 (by decide) ?_
  exact tj_zreturn ok hf en dX1_holds_37
def b_X1_holds_79  (h : AH) : Option (Int32 × AH) :=
  ok_z (0 : Int32) h
set_option maxHeartbeats 4000000 in
set_option maxRecDepth 100000 in
theorem q_X1_holds_79 {h hE : AH} {v : Int32} (hf : b_X1_holds_79  h = some (v, hE)) : JD cX1_holds 5 RX1 "holds" (some .boolean) (7) 79 [] [] h hE (some (.inl (v))) := by
  unfold b_X1_holds_79 at hf
  have mE : hp_n h ≤ hp_n hE ∧ hp_s h ≤ hp_s hE := by obtain ⟨-, q⟩ := of_if hf; cases q; exact ⟨Nat.le_refl _, Nat.le_refl _⟩
  refine ⟨by omega, fun X g K ok nmx lev hK en => ?_⟩
  refine tj_iconst (v := 0) ok dX1_holds_79 (by decide) ?_
  exact tj_zreturn ok hf en dX1_holds_80
def b_X1_holds_73 (r41 : Nat → Nat → Nat → Int32 → Int32 → AH → Option (Int32 × AH)) (a0 : Nat) (a1 : Nat) (a2 : Nat) (a3 : Int32) (a4 : Int32) (h : AH) : Option (Int32 × AH) :=
  r41 a0 a1 a2 a3 (a4 + (1 : Int32)) h
set_option maxHeartbeats 4000000 in
set_option maxRecDepth 100000 in
theorem q_X1_holds_73 {hE : AH} {v : Int32} {r41 : Nat → Nat → Nat → Int32 → Int32 → AH → Option (Int32 × AH)} (hr41 : ∀ (b0 : Nat) (b1 : Nat) (b2 : Nat) (b3 : Int32) (b4 : Int32) (h : AH), r41 b0 b1 b2 b3 b4 h = some (v, hE) → JD cX1_holds 5 RX1 "holds" (some .boolean) (7) 41 [(0, .inr (.inr (b0))), (1, .inr (.inr (b1))), (2, .inr (.inr (b2))), (3, .inl (b3)), (4, .inl (b4))] [] h hE (some (.inl (v)))) {a0 : Nat} {a1 : Nat} {a2 : Nat} {a3 : Int32} {a4 : Int32} {h : AH} (hf : b_X1_holds_73 r41 a0 a1 a2 a3 a4 h = some (v, hE)) : JD cX1_holds 5 RX1 "holds" (some .boolean) (7) 73 [(0, .inr (.inr (a0))), (1, .inr (.inr (a1))), (2, .inr (.inr (a2))), (3, .inl (a3)), (4, .inl (a4))] [] h hE (some (.inl (v))) := by
  unfold b_X1_holds_73 at hf
  have J := hr41 _ _ _ _ _ _ hf
  have mE := J.1
  refine ⟨by omega, fun X g K ok nmx lev hK en => ?_⟩
  refine tj_iinc (lv' := [(0, .inr (.inr (a0))), (1, .inr (.inr (a1))), (2, .inr (.inr (a2))), (3, .inl (a3)), (4, .inl (a4 + (1 : Int32)))]) ok 4 dX1_holds_73 rfl (rfl) (by decide) rfl ?_
  refine tj_goto (tgt := 41) ok dX1_holds_76 (by decide) ?_
  exact J.2 X g K ok nmx lev hK en
def b_X1_holds_71  (h : AH) : Option (Int32 × AH) :=
  ok_z (1 : Int32) h
set_option maxHeartbeats 4000000 in
set_option maxRecDepth 100000 in
theorem q_X1_holds_71 {h hE : AH} {v : Int32} (hf : b_X1_holds_71  h = some (v, hE)) : JD cX1_holds 5 RX1 "holds" (some .boolean) (7) 71 [] [] h hE (some (.inl (v))) := by
  unfold b_X1_holds_71 at hf
  have mE : hp_n h ≤ hp_n hE ∧ hp_s h ≤ hp_s hE := by obtain ⟨-, q⟩ := of_if hf; cases q; exact ⟨Nat.le_refl _, Nat.le_refl _⟩
  refine ⟨by omega, fun X g K ok nmx lev hK en => ?_⟩
  refine tj_iconst (v := 1) ok dX1_holds_71 (by decide) ?_
  exact tj_zreturn ok hf en dX1_holds_72
def b_X1_holds_60 (r41 : Nat → Nat → Nat → Int32 → Int32 → AH → Option (Int32 × AH)) (a0 : Nat) (a1 : Nat) (a2 : Nat) (a3 : Int32) (a4 : Int32) (h : AH) : Option (Int32 × AH) :=
  (ok_v h a0 1).bind fun x1 => (f_X1_fits a0 a1 a2 a4 h).bind fun q2 => if q2.1 = 0 then b_X1_holds_73 r41 a0 a1 a2 a3 a4 q2.2 else b_X1_holds_71 q2.2
set_option maxHeartbeats 4000000 in
set_option maxRecDepth 100000 in
theorem q_X1_holds_60 {hE : AH} {v : Int32} {r41 : Nat → Nat → Nat → Int32 → Int32 → AH → Option (Int32 × AH)} (hr41 : ∀ (b0 : Nat) (b1 : Nat) (b2 : Nat) (b3 : Int32) (b4 : Int32) (h : AH), r41 b0 b1 b2 b3 b4 h = some (v, hE) → JD cX1_holds 5 RX1 "holds" (some .boolean) (7) 41 [(0, .inr (.inr (b0))), (1, .inr (.inr (b1))), (2, .inr (.inr (b2))), (3, .inl (b3)), (4, .inl (b4))] [] h hE (some (.inl (v)))) {a0 : Nat} {a1 : Nat} {a2 : Nat} {a3 : Int32} {a4 : Int32} {h : AH} (hf : b_X1_holds_60 r41 a0 a1 a2 a3 a4 h = some (v, hE)) : JD cX1_holds 5 RX1 "holds" (some .boolean) (7) 60 [(0, .inr (.inr (a0))), (1, .inr (.inr (a1))), (2, .inr (.inr (a2))), (3, .inl (a3)), (4, .inl (a4))] [] h hE (some (.inl (v))) := by
  unfold b_X1_holds_60 at hf
  obtain ⟨x1, e1, hf⟩ := bnd hf
  obtain ⟨⟨x2, h2⟩, e2, hf⟩ := bnd hf
  try dsimp only at hf
  have k2 := c_X1_fits e2
  have m2 := (k2 default_g).1
  have mE : hp_n h2 ≤ hp_n hE ∧ hp_s h2 ≤ hp_s hE := by
    by_cases hc : x2 = 0
    · rw [if_pos hc] at hf; exact (q_X1_holds_73 hr41 hf).1
    · rw [if_neg hc] at hf; exact (q_X1_holds_71 hf).1
  refine ⟨by omega, fun X g K ok nmx lev hK en => ?_⟩
  refine tj_aload_n ok 0 dX1_holds_60 rfl rfl ?_
  refine tj_aload_n ok 1 dX1_holds_61 rfl rfl ?_
  refine tj_aload_n ok 2 dX1_holds_62 rfl rfl ?_
  refine tj_iload ok 4 dX1_holds_63 rfl ?_
  refine tj_callV (rest := ([] : List TV).map (vl g)) (as := [.inr (.inr (a1)), .inr (.inr (a2)), .inl (a4)]) ok lev (by omega) fcX1.1 (by decide) rfl (of_if e1).1 (k2 g) (CaX.of en (by omega)) kn_X1_fits wm_899 wm_900 wm_901 (rs_ok (Nat.le_of_ble_eq_true rfl)) rfl rfl dX1_holds_65 ?_
  refine tj_if_eq (tgt := 73) ok dX1_holds_68 (by decide) (fun hc => ?_) (fun hc => ?_)
  · rw [if_pos hc] at hf
    exact (q_X1_holds_73 hr41 hf).2 X g K ok nmx lev hK en
  · rw [if_neg hc] at hf
    refine tj_sub (lv' := []) [] rfl ?_
    exact (q_X1_holds_71 hf).2 X g K ok nmx lev hK en
def b_X1_holds_51 (r41 : Nat → Nat → Nat → Int32 → Int32 → AH → Option (Int32 × AH)) (a0 : Nat) (a1 : Nat) (a2 : Nat) (a3 : Int32) (a4 : Int32) (h : AH) : Option (Int32 × AH) :=
  (f_X1_takesEachThread a4 a3 h).bind fun q1 => if q1.1 = 0 then b_X1_holds_73 r41 a0 a1 a2 a3 a4 q1.2 else b_X1_holds_60 r41 a0 a1 a2 a3 a4 q1.2
set_option maxHeartbeats 4000000 in
set_option maxRecDepth 100000 in
theorem q_X1_holds_51 {hE : AH} {v : Int32} {r41 : Nat → Nat → Nat → Int32 → Int32 → AH → Option (Int32 × AH)} (hr41 : ∀ (b0 : Nat) (b1 : Nat) (b2 : Nat) (b3 : Int32) (b4 : Int32) (h : AH), r41 b0 b1 b2 b3 b4 h = some (v, hE) → JD cX1_holds 5 RX1 "holds" (some .boolean) (7) 41 [(0, .inr (.inr (b0))), (1, .inr (.inr (b1))), (2, .inr (.inr (b2))), (3, .inl (b3)), (4, .inl (b4))] [] h hE (some (.inl (v)))) {a0 : Nat} {a1 : Nat} {a2 : Nat} {a3 : Int32} {a4 : Int32} {h : AH} (hf : b_X1_holds_51 r41 a0 a1 a2 a3 a4 h = some (v, hE)) : JD cX1_holds 5 RX1 "holds" (some .boolean) (7) 51 [(0, .inr (.inr (a0))), (1, .inr (.inr (a1))), (2, .inr (.inr (a2))), (3, .inl (a3)), (4, .inl (a4))] [] h hE (some (.inl (v))) := by
  unfold b_X1_holds_51 at hf
  obtain ⟨⟨x1, h1⟩, e1, hf⟩ := bnd hf
  try dsimp only at hf
  have k1 := c_X1_takesEachThread e1
  have m1 := (k1 default_g).1
  have mE : hp_n h1 ≤ hp_n hE ∧ hp_s h1 ≤ hp_s hE := by
    by_cases hc : x1 = 0
    · rw [if_pos hc] at hf; exact (q_X1_holds_73 hr41 hf).1
    · rw [if_neg hc] at hf; exact (q_X1_holds_60 hr41 hf).1
  refine ⟨by omega, fun X g K ok nmx lev hK en => ?_⟩
  refine tj_iload ok 4 dX1_holds_51 rfl ?_
  refine tj_iload_n ok 3 dX1_holds_53 rfl rfl ?_
  refine tj_callS (rest := ([] : List TV).map (vl g)) (as := [.inl (a4), .inl (a3)]) ok lev (by omega) (k1 g) (CaX.of en (by omega)) kn_X1_takesEachThread wm_902 wm_903 (rs_ok (Nat.le_of_ble_eq_true rfl)) rfl rfl dX1_holds_54 ?_
  refine tj_if_eq (tgt := 73) ok dX1_holds_57 (by decide) (fun hc => ?_) (fun hc => ?_)
  · rw [if_pos hc] at hf
    exact (q_X1_holds_73 hr41 hf).2 X g K ok nmx lev hK en
  · rw [if_neg hc] at hf
    exact (q_X1_holds_60 hr41 hf).2 X g K ok nmx lev hK en
def b_X1_holds_41 (r41 : Nat → Nat → Nat → Int32 → Int32 → AH → Option (Int32 × AH)) (a0 : Nat) (a1 : Nat) (a2 : Nat) (a3 : Int32) (a4 : Int32) (h : AH) : Option (Int32 × AH) :=
  if ((1 : Int32) <<< (((2 : Int32) * a3) &&& 31)) ≤ a4 then b_X1_holds_79 h else b_X1_holds_51 r41 a0 a1 a2 a3 a4 h
set_option maxHeartbeats 4000000 in
set_option maxRecDepth 100000 in
theorem q_X1_holds_41 {hE : AH} {v : Int32} {r41 : Nat → Nat → Nat → Int32 → Int32 → AH → Option (Int32 × AH)} (hr41 : ∀ (b0 : Nat) (b1 : Nat) (b2 : Nat) (b3 : Int32) (b4 : Int32) (h : AH), r41 b0 b1 b2 b3 b4 h = some (v, hE) → JD cX1_holds 5 RX1 "holds" (some .boolean) (7) 41 [(0, .inr (.inr (b0))), (1, .inr (.inr (b1))), (2, .inr (.inr (b2))), (3, .inl (b3)), (4, .inl (b4))] [] h hE (some (.inl (v)))) {a0 : Nat} {a1 : Nat} {a2 : Nat} {a3 : Int32} {a4 : Int32} {h : AH} (hf : b_X1_holds_41 r41 a0 a1 a2 a3 a4 h = some (v, hE)) : JD cX1_holds 5 RX1 "holds" (some .boolean) (7) 41 [(0, .inr (.inr (a0))), (1, .inr (.inr (a1))), (2, .inr (.inr (a2))), (3, .inl (a3)), (4, .inl (a4))] [] h hE (some (.inl (v))) := by
  unfold b_X1_holds_41 at hf
  have mE : hp_n h ≤ hp_n hE ∧ hp_s h ≤ hp_s hE := by
    by_cases hc : ((1 : Int32) <<< (((2 : Int32) * a3) &&& 31)) ≤ a4
    · rw [if_pos hc] at hf; exact (q_X1_holds_79 hf).1
    · rw [if_neg hc] at hf; exact (q_X1_holds_51 hr41 hf).1
  refine ⟨by omega, fun X g K ok nmx lev hK en => ?_⟩
  refine tj_iload ok 4 dX1_holds_41 rfl ?_
  refine tj_iconst (v := 1) ok dX1_holds_43 (by decide) ?_
  refine tj_iconst (v := 2) ok dX1_holds_44 (by decide) ?_
  refine tj_iload_n ok 3 dX1_holds_45 rfl rfl ?_
  refine tj_imul ok dX1_holds_46 ?_
  refine tj_ishl ok dX1_holds_47 ?_
  refine tj_icmp_ge (tgt := 79) ok dX1_holds_48 (by decide) (fun hc => ?_) (fun hc => ?_)
  · rw [if_pos hc] at hf
    refine tj_sub (lv' := []) [] rfl ?_
    exact (q_X1_holds_79 hf).2 X g K ok nmx lev hK en
  · rw [if_neg hc] at hf
    exact (q_X1_holds_51 hr41 hf).2 X g K ok nmx lev hK en
def l_X1_holds_41 : Nat → Nat → Nat → Nat → Int32 → Int32 → AH → Option (Int32 × AH)
  | 0 => fun _ _ _ _ _ _ => none
  | n + 1 => fun a0 a1 a2 a3 a4 h => b_X1_holds_41 (l_X1_holds_41 n) a0 a1 a2 a3 a4 h
theorem ql_X1_holds_41 {n : Nat} {a0 : Nat} {a1 : Nat} {a2 : Nat} {a3 : Int32} {a4 : Int32} {h hE : AH} {v : Int32} (hf : l_X1_holds_41 n a0 a1 a2 a3 a4 h = some (v, hE)) : JD cX1_holds 5 RX1 "holds" (some .boolean) (7) 41 [(0, .inr (.inr (a0))), (1, .inr (.inr (a1))), (2, .inr (.inr (a2))), (3, .inl (a3)), (4, .inl (a4))] [] h hE (some (.inl (v))) := by
  induction n generalizing a0 a1 a2 a3 a4 h with
  | zero => cases hf
  | succ n ih => exact q_X1_holds_41 (fun _ _ _ _ _ _ hf => ih hf) hf
def b_X1_holds_38 (a0 : Nat) (a1 : Nat) (a2 : Nat) (a3 : Int32) (h : AH) : Option (Int32 × AH) :=
  l_X1_holds_41 fu_ a0 a1 a2 a3 (0 : Int32) h
set_option maxHeartbeats 4000000 in
set_option maxRecDepth 100000 in
theorem q_X1_holds_38 {a0 : Nat} {a1 : Nat} {a2 : Nat} {a3 : Int32} {h hE : AH} {v : Int32} (hf : b_X1_holds_38 a0 a1 a2 a3 h = some (v, hE)) : JD cX1_holds 5 RX1 "holds" (some .boolean) (7) 38 [(0, .inr (.inr (a0))), (1, .inr (.inr (a1))), (2, .inr (.inr (a2))), (3, .inl (a3))] [] h hE (some (.inl (v))) := by
  unfold b_X1_holds_38 at hf
  have J := ql_X1_holds_41 hf
  have mE := J.1
  refine ⟨by omega, fun X g K ok nmx lev hK en => ?_⟩
  refine tj_iconst (v := 0) ok dX1_holds_38 (by decide) ?_
  refine tj_istore (lv' := [(0, .inr (.inr (a0))), (1, .inr (.inr (a1))), (2, .inr (.inr (a2))), (3, .inl (a3)), (4, .inl ((0 : Int32)))]) ok dX1_holds_39 (by decide) rfl ?_
  exact J.2 X g K ok nmx lev hK en
def b_X1_holds_19 (a0 : Nat) (a1 : Nat) (a2 : Nat) (a3 : Int32) (h : AH) : Option (Int32 × AH) :=
  (g_r h a1 5 0).bind fun x1 => (g_i h x1 0 10).bind fun x2 => (g_r h a2 5 0).bind fun x3 => (g_i h x3 0 10).bind fun x4 => if x2 = x4 then b_X1_holds_38 a0 a1 a2 a3 h else b_X1_holds_36 h
set_option maxHeartbeats 4000000 in
set_option maxRecDepth 100000 in
theorem q_X1_holds_19 {a0 : Nat} {a1 : Nat} {a2 : Nat} {a3 : Int32} {h hE : AH} {v : Int32} (hf : b_X1_holds_19 a0 a1 a2 a3 h = some (v, hE)) : JD cX1_holds 5 RX1 "holds" (some .boolean) (7) 19 [(0, .inr (.inr (a0))), (1, .inr (.inr (a1))), (2, .inr (.inr (a2))), (3, .inl (a3))] [] h hE (some (.inl (v))) := by
  unfold b_X1_holds_19 at hf
  obtain ⟨x1, e1, hf⟩ := bnd hf
  obtain ⟨x2, e2, hf⟩ := bnd hf
  obtain ⟨x3, e3, hf⟩ := bnd hf
  obtain ⟨x4, e4, hf⟩ := bnd hf
  have mE : hp_n h ≤ hp_n hE ∧ hp_s h ≤ hp_s hE := by
    by_cases hc : x2 = x4
    · rw [if_pos hc] at hf; exact (q_X1_holds_38 hf).1
    · rw [if_neg hc] at hf; exact (q_X1_holds_36 hf).1
  refine ⟨by omega, fun X g K ok nmx lev hK en => ?_⟩
  refine tj_aload_n ok 1 dX1_holds_19 rfl rfl ?_
  refine tj_getR (k := 0) ok fcX5 (by decide) wm_875 rfl (Or.inl ⟨_, rfl⟩) dX1_holds_20 e1 ?_
  refine tj_getI (k := 10) ok fcX0 (by decide) wm_904 rfl (Or.inl rfl) dX1_holds_23 e2 ?_
  refine tj_aload_n ok 2 dX1_holds_26 rfl rfl ?_
  refine tj_getR (k := 0) ok fcX5 (by decide) wm_875 rfl (Or.inl ⟨_, rfl⟩) dX1_holds_27 e3 ?_
  refine tj_getI (k := 10) ok fcX0 (by decide) wm_904 rfl (Or.inl rfl) dX1_holds_30 e4 ?_
  refine tj_icmp_eq (tgt := 38) ok dX1_holds_33 (by decide) (fun hc => ?_) (fun hc => ?_)
  · rw [if_pos hc] at hf
    exact (q_X1_holds_38 hf).2 X g K ok nmx lev hK en
  · rw [if_neg hc] at hf
    refine tj_sub (lv' := []) [] rfl ?_
    exact (q_X1_holds_36 hf).2 X g K ok nmx lev hK en
def b_X1_holds_0 (a0 : Nat) (a1 : Nat) (a2 : Nat) (h : AH) : Option (Int32 × AH) :=
  (g_r h a1 5 0).bind fun x1 => (g_i h x1 0 11).bind fun x2 => (g_r h a2 5 0).bind fun x3 => (g_i h x3 0 11).bind fun x4 => if x2 = x4 then b_X1_holds_19 a0 a1 a2 x2 h else b_X1_holds_36 h
set_option maxHeartbeats 4000000 in
set_option maxRecDepth 100000 in
theorem q_X1_holds_0 {a0 : Nat} {a1 : Nat} {a2 : Nat} {h hE : AH} {v : Int32} (hf : b_X1_holds_0 a0 a1 a2 h = some (v, hE)) : JD cX1_holds 5 RX1 "holds" (some .boolean) (7) 0 [(0, .inr (.inr (a0))), (1, .inr (.inr (a1))), (2, .inr (.inr (a2)))] [] h hE (some (.inl (v))) := by
  unfold b_X1_holds_0 at hf
  obtain ⟨x1, e1, hf⟩ := bnd hf
  obtain ⟨x2, e2, hf⟩ := bnd hf
  obtain ⟨x3, e3, hf⟩ := bnd hf
  obtain ⟨x4, e4, hf⟩ := bnd hf
  have mE : hp_n h ≤ hp_n hE ∧ hp_s h ≤ hp_s hE := by
    by_cases hc : x2 = x4
    · rw [if_pos hc] at hf; exact (q_X1_holds_19 hf).1
    · rw [if_neg hc] at hf; exact (q_X1_holds_36 hf).1
  refine ⟨by omega, fun X g K ok nmx lev hK en => ?_⟩
  refine tj_aload_n ok 1 dX1_holds_0 rfl rfl ?_
  refine tj_getR (k := 0) ok fcX5 (by decide) wm_875 rfl (Or.inl ⟨_, rfl⟩) dX1_holds_1 e1 ?_
  refine tj_getI (k := 11) ok fcX0 (by decide) wm_895 rfl (Or.inl rfl) dX1_holds_4 e2 ?_
  refine tj_istore_n (lv' := [(0, .inr (.inr (a0))), (1, .inr (.inr (a1))), (2, .inr (.inr (a2))), (3, .inl (x2))]) ok dX1_holds_7 rfl (by decide) rfl ?_
  refine tj_iload_n ok 3 dX1_holds_8 rfl rfl ?_
  refine tj_aload_n ok 2 dX1_holds_9 rfl rfl ?_
  refine tj_getR (k := 0) ok fcX5 (by decide) wm_875 rfl (Or.inl ⟨_, rfl⟩) dX1_holds_10 e3 ?_
  refine tj_getI (k := 11) ok fcX0 (by decide) wm_895 rfl (Or.inl rfl) dX1_holds_13 e4 ?_
  refine tj_icmp_ne (tgt := 36) ok dX1_holds_16 (by decide) (fun hc => ?_) (fun hc => ?_)
  · rw [if_neg hc] at hf
    refine tj_sub (lv' := []) [] rfl ?_
    exact (q_X1_holds_36 hf).2 X g K ok nmx lev hK en
  · rw [if_pos hc] at hf
    exact (q_X1_holds_19 hf).2 X g K ok nmx lev hK en
def f_X1_holds (a0 : Nat) (a1 : Nat) (a2 : Nat) (h : AH) : Option (Int32 × AH) := b_X1_holds_0  a0 a1 a2 h
theorem c_X1_holds {a0 : Nat} {a1 : Nat} {a2 : Nat} {h hE : AH} {v : Int32} (hf : f_X1_holds a0 a1 a2 h = some (v, hE)) : ∀ g : GT, CM g (7) yX1_holds cX1_holds 5 (some .boolean) h [.inr (.inr (a0)), .inr (.inr (a1)), .inr (.inr (a2))] hE (some (.inl (v))) :=
  CM.ofJ (by decide) (by show _ ≤ 5; exact Nat.le_of_ble_eq_true rfl) (q_X1_holds_0 hf)
