theorem dX9_init_0 : decode cX9_init 0 = .ok (.aload_n 0, 1) := by decide +kernel
theorem dX9_init_1 : decode cX9_init 1 = .ok (.invokespecial 3, 3) := by decide +kernel
theorem dX9_init_4 : decode cX9_init 4 = .ok (.aload_n 0, 1) := by decide +kernel
theorem dX9_init_5 : decode cX9_init 5 = .ok (.sipush 256, 3) := by decide +kernel
theorem dX9_init_8 : decode cX9_init 8 = .ok (.newarray .long, 2) := by decide +kernel
theorem dX9_init_10 : decode cX9_init 10 = .ok (.putfield 11, 3) := by decide +kernel
theorem dX9_init_13 : decode cX9_init 13 = .ok (.aload_n 0, 1) := by decide +kernel
theorem dX9_init_14 : decode cX9_init 14 = .ok (.sipush 256, 3) := by decide +kernel
theorem dX9_init_17 : decode cX9_init 17 = .ok (.newarray .long, 2) := by decide +kernel
theorem dX9_init_19 : decode cX9_init 19 = .ok (.putfield 15, 3) := by decide +kernel
theorem dX9_init_22 : decode cX9_init 22 = .ok (.aload_n 0, 1) := by decide +kernel
theorem dX9_init_23 : decode cX9_init 23 = .ok (.sipush 256, 3) := by decide +kernel
theorem dX9_init_26 : decode cX9_init 26 = .ok (.newarray .long, 2) := by decide +kernel
theorem dX9_init_28 : decode cX9_init 28 = .ok (.putfield 18, 3) := by decide +kernel
theorem dX9_init_31 : decode cX9_init 31 = .ok (.aload_n 0, 1) := by decide +kernel
theorem dX9_init_32 : decode cX9_init 32 = .ok (.sipush 256, 3) := by decide +kernel
theorem dX9_init_35 : decode cX9_init 35 = .ok (.newarray .int, 2) := by decide +kernel
theorem dX9_init_37 : decode cX9_init 37 = .ok (.putfield 21, 3) := by decide +kernel
theorem dX9_init_40 : decode cX9_init 40 = .ok (.aload_n 0, 1) := by decide +kernel
theorem dX9_init_41 : decode cX9_init 41 = .ok (.iconst 0, 1) := by decide +kernel
theorem dX9_init_42 : decode cX9_init 42 = .ok (.putfield 25, 3) := by decide +kernel
theorem dX9_init_45 : decode cX9_init 45 = .ok (.aload_n 0, 1) := by decide +kernel
theorem dX9_init_46 : decode cX9_init 46 = .ok (.iconst 0, 1) := by decide +kernel
theorem dX9_init_47 : decode cX9_init 47 = .ok (.putfield 29, 3) := by decide +kernel
theorem dX9_init_50 : decode cX9_init 50 = .ok (.return_, 1) := by decide +kernel
theorem dX9_clear_0 : decode cX9_clear 0 = .ok (.aload_n 0, 1) := by decide +kernel
theorem dX9_clear_1 : decode cX9_clear 1 = .ok (.dup, 1) := by decide +kernel
theorem dX9_clear_2 : decode cX9_clear 2 = .ok (.getfield 25, 3) := by decide +kernel
theorem dX9_clear_5 : decode cX9_clear 5 = .ok (.iconst 1, 1) := by decide +kernel
theorem dX9_clear_6 : decode cX9_clear 6 = .ok (.iadd, 1) := by decide +kernel
theorem dX9_clear_7 : decode cX9_clear 7 = .ok (.putfield 25, 3) := by decide +kernel
theorem dX9_clear_10 : decode cX9_clear 10 = .ok (.aload_n 0, 1) := by decide +kernel
theorem dX9_clear_11 : decode cX9_clear 11 = .ok (.iconst 0, 1) := by decide +kernel
theorem dX9_clear_12 : decode cX9_clear 12 = .ok (.putfield 29, 3) := by decide +kernel
theorem dX9_clear_15 : decode cX9_clear 15 = .ok (.return_, 1) := by decide +kernel
theorem dX9_put_0 : decode cX9_put 0 = .ok (.aload_n 0, 1) := by decide +kernel
theorem dX9_put_1 : decode cX9_put 1 = .ok (.getfield 21, 3) := by decide +kernel
theorem dX9_put_4 : decode cX9_put 4 = .ok (.iload_n 1, 1) := by decide +kernel
theorem dX9_put_5 : decode cX9_put 5 = .ok (.aload_n 0, 1) := by decide +kernel
theorem dX9_put_6 : decode cX9_put 6 = .ok (.getfield 25, 3) := by decide +kernel
theorem dX9_put_9 : decode cX9_put 9 = .ok (.iastore, 1) := by decide +kernel
theorem dX9_put_10 : decode cX9_put 10 = .ok (.aload_n 0, 1) := by decide +kernel
theorem dX9_put_11 : decode cX9_put 11 = .ok (.getfield 11, 3) := by decide +kernel
theorem dX9_put_14 : decode cX9_put 14 = .ok (.iload_n 1, 1) := by decide +kernel
theorem dX9_put_15 : decode cX9_put 15 = .ok (.lload_n 2, 1) := by decide +kernel
theorem dX9_put_16 : decode cX9_put 16 = .ok (.lastore, 1) := by decide +kernel
theorem dX9_put_17 : decode cX9_put 17 = .ok (.aload_n 0, 1) := by decide +kernel
theorem dX9_put_18 : decode cX9_put 18 = .ok (.getfield 15, 3) := by decide +kernel
theorem dX9_put_21 : decode cX9_put 21 = .ok (.iload_n 1, 1) := by decide +kernel
theorem dX9_put_22 : decode cX9_put 22 = .ok (.lload 4, 2) := by decide +kernel
theorem dX9_put_24 : decode cX9_put 24 = .ok (.lastore, 1) := by decide +kernel
theorem dX9_put_25 : decode cX9_put 25 = .ok (.aload_n 0, 1) := by decide +kernel
theorem dX9_put_26 : decode cX9_put 26 = .ok (.getfield 18, 3) := by decide +kernel
theorem dX9_put_29 : decode cX9_put 29 = .ok (.iload_n 1, 1) := by decide +kernel
theorem dX9_put_30 : decode cX9_put 30 = .ok (.lload 6, 2) := by decide +kernel
theorem dX9_put_32 : decode cX9_put 32 = .ok (.lastore, 1) := by decide +kernel
theorem dX9_put_33 : decode cX9_put 33 = .ok (.aload_n 0, 1) := by decide +kernel
theorem dX9_put_34 : decode cX9_put 34 = .ok (.dup, 1) := by decide +kernel
theorem dX9_put_35 : decode cX9_put 35 = .ok (.getfield 29, 3) := by decide +kernel
theorem dX9_put_38 : decode cX9_put 38 = .ok (.iconst 1, 1) := by decide +kernel
theorem dX9_put_39 : decode cX9_put 39 = .ok (.iadd, 1) := by decide +kernel
theorem dX9_put_40 : decode cX9_put 40 = .ok (.putfield 29, 3) := by decide +kernel
theorem dX9_put_43 : decode cX9_put 43 = .ok (.return_, 1) := by decide +kernel
theorem dX9_slotOf_0 : decode cX9_slotOf 0 = .ok (.aload_n 0, 1) := by decide +kernel
theorem dX9_slotOf_1 : decode cX9_slotOf 1 = .ok (.getfield 21, 3) := by decide +kernel
theorem dX9_slotOf_4 : decode cX9_slotOf 4 = .ok (.arraylength, 1) := by decide +kernel
theorem dX9_slotOf_5 : decode cX9_slotOf 5 = .ok (.iconst 1, 1) := by decide +kernel
theorem dX9_slotOf_6 : decode cX9_slotOf 6 = .ok (.isub, 1) := by decide +kernel
theorem dX9_slotOf_7 : decode cX9_slotOf 7 = .ok (.istore 7, 2) := by decide +kernel
theorem dX9_slotOf_9 : decode cX9_slotOf 9 = .ok (.lload_n 1, 1) := by decide +kernel
theorem dX9_slotOf_10 : decode cX9_slotOf 10 = .ok (.ldc2_w 44, 3) := by decide +kernel
theorem dX9_slotOf_13 : decode cX9_slotOf 13 = .ok (.lmul, 1) := by decide +kernel
theorem dX9_slotOf_14 : decode cX9_slotOf 14 = .ok (.lload_n 3, 1) := by decide +kernel
theorem dX9_slotOf_15 : decode cX9_slotOf 15 = .ok (.ladd, 1) := by decide +kernel
theorem dX9_slotOf_16 : decode cX9_slotOf 16 = .ok (.ldc2_w 46, 3) := by decide +kernel
theorem dX9_slotOf_19 : decode cX9_slotOf 19 = .ok (.lmul, 1) := by decide +kernel
theorem dX9_slotOf_20 : decode cX9_slotOf 20 = .ok (.lload 5, 2) := by decide +kernel
theorem dX9_slotOf_22 : decode cX9_slotOf 22 = .ok (.ldc2_w 48, 3) := by decide +kernel
theorem dX9_slotOf_25 : decode cX9_slotOf 25 = .ok (.lmul, 1) := by decide +kernel
theorem dX9_slotOf_26 : decode cX9_slotOf 26 = .ok (.ladd, 1) := by decide +kernel
theorem dX9_slotOf_27 : decode cX9_slotOf 27 = .ok (.lstore 8, 2) := by decide +kernel
theorem dX9_slotOf_29 : decode cX9_slotOf 29 = .ok (.lload 8, 2) := by decide +kernel
theorem dX9_slotOf_31 : decode cX9_slotOf 31 = .ok (.bipush 32, 2) := by decide +kernel
theorem dX9_slotOf_33 : decode cX9_slotOf 33 = .ok (.lushr, 1) := by decide +kernel
theorem dX9_slotOf_34 : decode cX9_slotOf 34 = .ok (.lload 8, 2) := by decide +kernel
theorem dX9_slotOf_36 : decode cX9_slotOf 36 = .ok (.bipush 15, 2) := by decide +kernel
theorem dX9_slotOf_38 : decode cX9_slotOf 38 = .ok (.lushr, 1) := by decide +kernel
theorem dX9_slotOf_39 : decode cX9_slotOf 39 = .ok (.lxor, 1) := by decide +kernel
theorem dX9_slotOf_40 : decode cX9_slotOf 40 = .ok (.l2i, 1) := by decide +kernel
theorem dX9_slotOf_41 : decode cX9_slotOf 41 = .ok (.iload 7, 2) := by decide +kernel
theorem dX9_slotOf_43 : decode cX9_slotOf 43 = .ok (.iand, 1) := by decide +kernel
theorem dX9_slotOf_44 : decode cX9_slotOf 44 = .ok (.istore 10, 2) := by decide +kernel
theorem dX9_slotOf_46 : decode cX9_slotOf 46 = .ok (.iconst 0, 1) := by decide +kernel
theorem dX9_slotOf_47 : decode cX9_slotOf 47 = .ok (.istore 11, 2) := by decide +kernel
theorem dX9_slotOf_49 : decode cX9_slotOf 49 = .ok (.iload 11, 2) := by decide +kernel
theorem dX9_slotOf_51 : decode cX9_slotOf 51 = .ok (.iload 7, 2) := by decide +kernel
theorem dX9_slotOf_53 : decode cX9_slotOf 53 = .ok (.if_icmp .gt 72, 3) := by decide +kernel
theorem dX9_slotOf_56 : decode cX9_slotOf 56 = .ok (.aload_n 0, 1) := by decide +kernel
theorem dX9_slotOf_57 : decode cX9_slotOf 57 = .ok (.getfield 21, 3) := by decide +kernel
theorem dX9_slotOf_60 : decode cX9_slotOf 60 = .ok (.iload 10, 2) := by decide +kernel
theorem dX9_slotOf_62 : decode cX9_slotOf 62 = .ok (.iaload, 1) := by decide +kernel
theorem dX9_slotOf_63 : decode cX9_slotOf 63 = .ok (.aload_n 0, 1) := by decide +kernel
theorem dX9_slotOf_64 : decode cX9_slotOf 64 = .ok (.getfield 25, 3) := by decide +kernel
theorem dX9_slotOf_67 : decode cX9_slotOf 67 = .ok (.if_icmp .ne 40, 3) := by decide +kernel
theorem dX9_slotOf_70 : decode cX9_slotOf 70 = .ok (.aload_n 0, 1) := by decide +kernel
theorem dX9_slotOf_71 : decode cX9_slotOf 71 = .ok (.getfield 11, 3) := by decide +kernel
theorem dX9_slotOf_74 : decode cX9_slotOf 74 = .ok (.iload 10, 2) := by decide +kernel
theorem dX9_slotOf_76 : decode cX9_slotOf 76 = .ok (.laload, 1) := by decide +kernel
theorem dX9_slotOf_77 : decode cX9_slotOf 77 = .ok (.lload_n 1, 1) := by decide +kernel
theorem dX9_slotOf_78 : decode cX9_slotOf 78 = .ok (.lcmp, 1) := by decide +kernel
theorem dX9_slotOf_79 : decode cX9_slotOf 79 = .ok (.ifCond .ne 31, 3) := by decide +kernel
theorem dX9_slotOf_82 : decode cX9_slotOf 82 = .ok (.aload_n 0, 1) := by decide +kernel
theorem dX9_slotOf_83 : decode cX9_slotOf 83 = .ok (.getfield 15, 3) := by decide +kernel
theorem dX9_slotOf_86 : decode cX9_slotOf 86 = .ok (.iload 10, 2) := by decide +kernel
theorem dX9_slotOf_88 : decode cX9_slotOf 88 = .ok (.laload, 1) := by decide +kernel
theorem dX9_slotOf_89 : decode cX9_slotOf 89 = .ok (.lload_n 3, 1) := by decide +kernel
theorem dX9_slotOf_90 : decode cX9_slotOf 90 = .ok (.lcmp, 1) := by decide +kernel
theorem dX9_slotOf_91 : decode cX9_slotOf 91 = .ok (.ifCond .ne 19, 3) := by decide +kernel
theorem dX9_slotOf_94 : decode cX9_slotOf 94 = .ok (.aload_n 0, 1) := by decide +kernel
theorem dX9_slotOf_95 : decode cX9_slotOf 95 = .ok (.getfield 18, 3) := by decide +kernel
theorem dX9_slotOf_98 : decode cX9_slotOf 98 = .ok (.iload 10, 2) := by decide +kernel
theorem dX9_slotOf_100 : decode cX9_slotOf 100 = .ok (.laload, 1) := by decide +kernel
theorem dX9_slotOf_101 : decode cX9_slotOf 101 = .ok (.lload 5, 2) := by decide +kernel
theorem dX9_slotOf_103 : decode cX9_slotOf 103 = .ok (.lcmp, 1) := by decide +kernel
theorem dX9_slotOf_104 : decode cX9_slotOf 104 = .ok (.ifCond .ne 6, 3) := by decide +kernel
theorem dX9_slotOf_107 : decode cX9_slotOf 107 = .ok (.iload 10, 2) := by decide +kernel
theorem dX9_slotOf_109 : decode cX9_slotOf 109 = .ok (.ireturn, 1) := by decide +kernel
theorem dX9_slotOf_110 : decode cX9_slotOf 110 = .ok (.iload 10, 2) := by decide +kernel
theorem dX9_slotOf_112 : decode cX9_slotOf 112 = .ok (.iconst 1, 1) := by decide +kernel
theorem dX9_slotOf_113 : decode cX9_slotOf 113 = .ok (.iadd, 1) := by decide +kernel
theorem dX9_slotOf_114 : decode cX9_slotOf 114 = .ok (.iload 7, 2) := by decide +kernel
theorem dX9_slotOf_116 : decode cX9_slotOf 116 = .ok (.iand, 1) := by decide +kernel
theorem dX9_slotOf_117 : decode cX9_slotOf 117 = .ok (.istore 10, 2) := by decide +kernel
theorem dX9_slotOf_119 : decode cX9_slotOf 119 = .ok (.iinc 11 1, 3) := by decide +kernel
theorem dX9_slotOf_122 : decode cX9_slotOf 122 = .ok (.goto (-73), 3) := by decide +kernel
theorem dX9_slotOf_125 : decode cX9_slotOf 125 = .ok (.iconst (-1), 1) := by decide +kernel
theorem dX9_slotOf_126 : decode cX9_slotOf 126 = .ok (.ireturn, 1) := by decide +kernel
theorem dX9_grow_0 : decode cX9_grow 0 = .ok (.aload_n 0, 1) := by decide +kernel
theorem dX9_grow_1 : decode cX9_grow 1 = .ok (.getfield 11, 3) := by decide +kernel
theorem dX9_grow_4 : decode cX9_grow 4 = .ok (.astore_n 1, 1) := by decide +kernel
theorem dX9_grow_5 : decode cX9_grow 5 = .ok (.aload_n 0, 1) := by decide +kernel
theorem dX9_grow_6 : decode cX9_grow 6 = .ok (.getfield 15, 3) := by decide +kernel
theorem dX9_grow_9 : decode cX9_grow 9 = .ok (.astore_n 2, 1) := by decide +kernel
theorem dX9_grow_10 : decode cX9_grow 10 = .ok (.aload_n 0, 1) := by decide +kernel
theorem dX9_grow_11 : decode cX9_grow 11 = .ok (.getfield 18, 3) := by decide +kernel
theorem dX9_grow_14 : decode cX9_grow 14 = .ok (.astore_n 3, 1) := by decide +kernel
theorem dX9_grow_15 : decode cX9_grow 15 = .ok (.aload_n 0, 1) := by decide +kernel
theorem dX9_grow_16 : decode cX9_grow 16 = .ok (.getfield 21, 3) := by decide +kernel
theorem dX9_grow_19 : decode cX9_grow 19 = .ok (.astore 4, 2) := by decide +kernel
theorem dX9_grow_21 : decode cX9_grow 21 = .ok (.aload_n 0, 1) := by decide +kernel
theorem dX9_grow_22 : decode cX9_grow 22 = .ok (.iconst 2, 1) := by decide +kernel
theorem dX9_grow_23 : decode cX9_grow 23 = .ok (.aload 4, 2) := by decide +kernel
theorem dX9_grow_25 : decode cX9_grow 25 = .ok (.arraylength, 1) := by decide +kernel
theorem dX9_grow_26 : decode cX9_grow 26 = .ok (.imul, 1) := by decide +kernel
theorem dX9_grow_27 : decode cX9_grow 27 = .ok (.newarray .long, 2) := by decide +kernel
theorem dX9_grow_29 : decode cX9_grow 29 = .ok (.putfield 11, 3) := by decide +kernel
theorem dX9_grow_32 : decode cX9_grow 32 = .ok (.aload_n 0, 1) := by decide +kernel
theorem dX9_grow_33 : decode cX9_grow 33 = .ok (.iconst 2, 1) := by decide +kernel
theorem dX9_grow_34 : decode cX9_grow 34 = .ok (.aload 4, 2) := by decide +kernel
theorem dX9_grow_36 : decode cX9_grow 36 = .ok (.arraylength, 1) := by decide +kernel
theorem dX9_grow_37 : decode cX9_grow 37 = .ok (.imul, 1) := by decide +kernel
theorem dX9_grow_38 : decode cX9_grow 38 = .ok (.newarray .long, 2) := by decide +kernel
theorem dX9_grow_40 : decode cX9_grow 40 = .ok (.putfield 15, 3) := by decide +kernel
theorem dX9_grow_43 : decode cX9_grow 43 = .ok (.aload_n 0, 1) := by decide +kernel
theorem dX9_grow_44 : decode cX9_grow 44 = .ok (.iconst 2, 1) := by decide +kernel
theorem dX9_grow_45 : decode cX9_grow 45 = .ok (.aload 4, 2) := by decide +kernel
theorem dX9_grow_47 : decode cX9_grow 47 = .ok (.arraylength, 1) := by decide +kernel
theorem dX9_grow_48 : decode cX9_grow 48 = .ok (.imul, 1) := by decide +kernel
theorem dX9_grow_49 : decode cX9_grow 49 = .ok (.newarray .long, 2) := by decide +kernel
theorem dX9_grow_51 : decode cX9_grow 51 = .ok (.putfield 18, 3) := by decide +kernel
theorem dX9_grow_54 : decode cX9_grow 54 = .ok (.aload_n 0, 1) := by decide +kernel
theorem dX9_grow_55 : decode cX9_grow 55 = .ok (.iconst 2, 1) := by decide +kernel
theorem dX9_grow_56 : decode cX9_grow 56 = .ok (.aload 4, 2) := by decide +kernel
theorem dX9_grow_58 : decode cX9_grow 58 = .ok (.arraylength, 1) := by decide +kernel
theorem dX9_grow_59 : decode cX9_grow 59 = .ok (.imul, 1) := by decide +kernel
theorem dX9_grow_60 : decode cX9_grow 60 = .ok (.newarray .int, 2) := by decide +kernel
theorem dX9_grow_62 : decode cX9_grow 62 = .ok (.putfield 21, 3) := by decide +kernel
theorem dX9_grow_65 : decode cX9_grow 65 = .ok (.aload_n 0, 1) := by decide +kernel
theorem dX9_grow_66 : decode cX9_grow 66 = .ok (.iconst 0, 1) := by decide +kernel
theorem dX9_grow_67 : decode cX9_grow 67 = .ok (.putfield 29, 3) := by decide +kernel
theorem dX9_grow_70 : decode cX9_grow 70 = .ok (.iconst 0, 1) := by decide +kernel
theorem dX9_grow_71 : decode cX9_grow 71 = .ok (.istore 5, 2) := by decide +kernel
theorem dX9_grow_73 : decode cX9_grow 73 = .ok (.iload 5, 2) := by decide +kernel
theorem dX9_grow_75 : decode cX9_grow 75 = .ok (.aload 4, 2) := by decide +kernel
theorem dX9_grow_77 : decode cX9_grow 77 = .ok (.arraylength, 1) := by decide +kernel
theorem dX9_grow_78 : decode cX9_grow 78 = .ok (.if_icmp .ge 63, 3) := by decide +kernel
theorem dX9_grow_81 : decode cX9_grow 81 = .ok (.aload 4, 2) := by decide +kernel
theorem dX9_grow_83 : decode cX9_grow 83 = .ok (.iload 5, 2) := by decide +kernel
theorem dX9_grow_85 : decode cX9_grow 85 = .ok (.iaload, 1) := by decide +kernel
theorem dX9_grow_86 : decode cX9_grow 86 = .ok (.aload_n 0, 1) := by decide +kernel
theorem dX9_grow_87 : decode cX9_grow 87 = .ok (.getfield 25, 3) := by decide +kernel
theorem dX9_grow_90 : decode cX9_grow 90 = .ok (.if_icmp .ne 45, 3) := by decide +kernel
theorem dX9_grow_93 : decode cX9_grow 93 = .ok (.aload_n 0, 1) := by decide +kernel
theorem dX9_grow_94 : decode cX9_grow 94 = .ok (.aload_n 1, 1) := by decide +kernel
theorem dX9_grow_95 : decode cX9_grow 95 = .ok (.iload 5, 2) := by decide +kernel
theorem dX9_grow_97 : decode cX9_grow 97 = .ok (.laload, 1) := by decide +kernel
theorem dX9_grow_98 : decode cX9_grow 98 = .ok (.aload_n 2, 1) := by decide +kernel
theorem dX9_grow_99 : decode cX9_grow 99 = .ok (.iload 5, 2) := by decide +kernel
theorem dX9_grow_101 : decode cX9_grow 101 = .ok (.laload, 1) := by decide +kernel
theorem dX9_grow_102 : decode cX9_grow 102 = .ok (.aload_n 3, 1) := by decide +kernel
theorem dX9_grow_103 : decode cX9_grow 103 = .ok (.iload 5, 2) := by decide +kernel
theorem dX9_grow_105 : decode cX9_grow 105 = .ok (.laload, 1) := by decide +kernel
theorem dX9_grow_106 : decode cX9_grow 106 = .ok (.invokevirtual 36, 3) := by decide +kernel
theorem dX9_grow_109 : decode cX9_grow 109 = .ok (.istore 6, 2) := by decide +kernel
theorem dX9_grow_111 : decode cX9_grow 111 = .ok (.iload 6, 2) := by decide +kernel
theorem dX9_grow_113 : decode cX9_grow 113 = .ok (.iconst (-1), 1) := by decide +kernel
theorem dX9_grow_114 : decode cX9_grow 114 = .ok (.if_icmp .eq 21, 3) := by decide +kernel
theorem dX9_grow_117 : decode cX9_grow 117 = .ok (.aload_n 0, 1) := by decide +kernel
theorem dX9_grow_118 : decode cX9_grow 118 = .ok (.iload 6, 2) := by decide +kernel
theorem dX9_grow_120 : decode cX9_grow 120 = .ok (.aload_n 1, 1) := by decide +kernel
theorem dX9_grow_121 : decode cX9_grow 121 = .ok (.iload 5, 2) := by decide +kernel
theorem dX9_grow_123 : decode cX9_grow 123 = .ok (.laload, 1) := by decide +kernel
theorem dX9_grow_124 : decode cX9_grow 124 = .ok (.aload_n 2, 1) := by decide +kernel
theorem dX9_grow_125 : decode cX9_grow 125 = .ok (.iload 5, 2) := by decide +kernel
theorem dX9_grow_127 : decode cX9_grow 127 = .ok (.laload, 1) := by decide +kernel
theorem dX9_grow_128 : decode cX9_grow 128 = .ok (.aload_n 3, 1) := by decide +kernel
theorem dX9_grow_129 : decode cX9_grow 129 = .ok (.iload 5, 2) := by decide +kernel
theorem dX9_grow_131 : decode cX9_grow 131 = .ok (.laload, 1) := by decide +kernel
theorem dX9_grow_132 : decode cX9_grow 132 = .ok (.invokevirtual 40, 3) := by decide +kernel
theorem dX9_grow_135 : decode cX9_grow 135 = .ok (.iinc 5 1, 3) := by decide +kernel
theorem dX9_grow_138 : decode cX9_grow 138 = .ok (.goto (-65), 3) := by decide +kernel
theorem dX9_grow_141 : decode cX9_grow 141 = .ok (.return_, 1) := by decide +kernel
theorem dX9_isNew_0 : decode cX9_isNew 0 = .ok (.aload_n 0, 1) := by decide +kernel
theorem dX9_isNew_1 : decode cX9_isNew 1 = .ok (.getfield 29, 3) := by decide +kernel
theorem dX9_isNew_4 : decode cX9_isNew 4 = .ok (.aload_n 0, 1) := by decide +kernel
theorem dX9_isNew_5 : decode cX9_isNew 5 = .ok (.getfield 21, 3) := by decide +kernel
theorem dX9_isNew_8 : decode cX9_isNew 8 = .ok (.arraylength, 1) := by decide +kernel
theorem dX9_isNew_9 : decode cX9_isNew 9 = .ok (.iconst 2, 1) := by decide +kernel
theorem dX9_isNew_10 : decode cX9_isNew 10 = .ok (.idiv, 1) := by decide +kernel
theorem dX9_isNew_11 : decode cX9_isNew 11 = .ok (.if_icmp .lt 17, 3) := by decide +kernel
theorem dX9_isNew_14 : decode cX9_isNew 14 = .ok (.aload_n 0, 1) := by decide +kernel
theorem dX9_isNew_15 : decode cX9_isNew 15 = .ok (.getfield 21, 3) := by decide +kernel
theorem dX9_isNew_18 : decode cX9_isNew 18 = .ok (.arraylength, 1) := by decide +kernel
theorem dX9_isNew_19 : decode cX9_isNew 19 = .ok (.ldc 32, 2) := by decide +kernel
theorem dX9_isNew_21 : decode cX9_isNew 21 = .ok (.if_icmp .ge 7, 3) := by decide +kernel
theorem dX9_isNew_24 : decode cX9_isNew 24 = .ok (.aload_n 0, 1) := by decide +kernel
theorem dX9_isNew_25 : decode cX9_isNew 25 = .ok (.invokevirtual 33, 3) := by decide +kernel
theorem dX9_isNew_28 : decode cX9_isNew 28 = .ok (.aload_n 0, 1) := by decide +kernel
theorem dX9_isNew_29 : decode cX9_isNew 29 = .ok (.lload_n 1, 1) := by decide +kernel
theorem dX9_isNew_30 : decode cX9_isNew 30 = .ok (.lload_n 3, 1) := by decide +kernel
theorem dX9_isNew_31 : decode cX9_isNew 31 = .ok (.lload 5, 2) := by decide +kernel
theorem dX9_isNew_33 : decode cX9_isNew 33 = .ok (.invokevirtual 36, 3) := by decide +kernel
theorem dX9_isNew_36 : decode cX9_isNew 36 = .ok (.istore 7, 2) := by decide +kernel
theorem dX9_isNew_38 : decode cX9_isNew 38 = .ok (.iload 7, 2) := by decide +kernel
theorem dX9_isNew_40 : decode cX9_isNew 40 = .ok (.iconst (-1), 1) := by decide +kernel
theorem dX9_isNew_41 : decode cX9_isNew 41 = .ok (.if_icmp .ne 5, 3) := by decide +kernel
theorem dX9_isNew_44 : decode cX9_isNew 44 = .ok (.iconst 1, 1) := by decide +kernel
theorem dX9_isNew_45 : decode cX9_isNew 45 = .ok (.ireturn, 1) := by decide +kernel
theorem dX9_isNew_46 : decode cX9_isNew 46 = .ok (.aload_n 0, 1) := by decide +kernel
theorem dX9_isNew_47 : decode cX9_isNew 47 = .ok (.getfield 21, 3) := by decide +kernel
theorem dX9_isNew_50 : decode cX9_isNew 50 = .ok (.iload 7, 2) := by decide +kernel
theorem dX9_isNew_52 : decode cX9_isNew 52 = .ok (.iaload, 1) := by decide +kernel
theorem dX9_isNew_53 : decode cX9_isNew 53 = .ok (.aload_n 0, 1) := by decide +kernel
theorem dX9_isNew_54 : decode cX9_isNew 54 = .ok (.getfield 25, 3) := by decide +kernel
theorem dX9_isNew_57 : decode cX9_isNew 57 = .ok (.if_icmp .ne 5, 3) := by decide +kernel
theorem dX9_isNew_60 : decode cX9_isNew 60 = .ok (.iconst 0, 1) := by decide +kernel
theorem dX9_isNew_61 : decode cX9_isNew 61 = .ok (.ireturn, 1) := by decide +kernel
theorem dX9_isNew_62 : decode cX9_isNew 62 = .ok (.aload_n 0, 1) := by decide +kernel
theorem dX9_isNew_63 : decode cX9_isNew 63 = .ok (.getfield 29, 3) := by decide +kernel
theorem dX9_isNew_66 : decode cX9_isNew 66 = .ok (.aload_n 0, 1) := by decide +kernel
theorem dX9_isNew_67 : decode cX9_isNew 67 = .ok (.getfield 21, 3) := by decide +kernel
theorem dX9_isNew_70 : decode cX9_isNew 70 = .ok (.arraylength, 1) := by decide +kernel
theorem dX9_isNew_71 : decode cX9_isNew 71 = .ok (.aload_n 0, 1) := by decide +kernel
theorem dX9_isNew_72 : decode cX9_isNew 72 = .ok (.getfield 21, 3) := by decide +kernel
theorem dX9_isNew_75 : decode cX9_isNew 75 = .ok (.arraylength, 1) := by decide +kernel
theorem dX9_isNew_76 : decode cX9_isNew 76 = .ok (.bipush 8, 2) := by decide +kernel
theorem dX9_isNew_78 : decode cX9_isNew 78 = .ok (.idiv, 1) := by decide +kernel
theorem dX9_isNew_79 : decode cX9_isNew 79 = .ok (.isub, 1) := by decide +kernel
theorem dX9_isNew_80 : decode cX9_isNew 80 = .ok (.if_icmp .ge 13, 3) := by decide +kernel
theorem dX9_isNew_83 : decode cX9_isNew 83 = .ok (.aload_n 0, 1) := by decide +kernel
theorem dX9_isNew_84 : decode cX9_isNew 84 = .ok (.iload 7, 2) := by decide +kernel
theorem dX9_isNew_86 : decode cX9_isNew 86 = .ok (.lload_n 1, 1) := by decide +kernel
theorem dX9_isNew_87 : decode cX9_isNew 87 = .ok (.lload_n 3, 1) := by decide +kernel
theorem dX9_isNew_88 : decode cX9_isNew 88 = .ok (.lload 5, 2) := by decide +kernel
theorem dX9_isNew_90 : decode cX9_isNew 90 = .ok (.invokevirtual 40, 3) := by decide +kernel
theorem dX9_isNew_93 : decode cX9_isNew 93 = .ok (.iconst 1, 1) := by decide +kernel
theorem dX9_isNew_94 : decode cX9_isNew 94 = .ok (.ireturn, 1) := by decide +kernel
theorem kn_X9_init : Kn yX9_init cX9_init 1 none 0 := ⟨wm_161, wm_162, by decide +kernel, by decide⟩
theorem kn_X9_clear : Kn yX9_clear cX9_clear 1 none 0 := ⟨wm_274, wm_162, by decide +kernel, by decide⟩
theorem kn_X9_put : Kn yX9_put cX9_put 8 none 4 := ⟨wm_429, wm_162, by decide +kernel, by decide⟩
theorem kn_X9_slotOf : Kn yX9_slotOf cX9_slotOf 12 (some .int) 3 := ⟨wm_430, wm_162, by decide +kernel, by decide⟩
theorem kn_X9_grow : Kn yX9_grow cX9_grow 7 none 0 := ⟨wm_434, wm_162, by decide +kernel, by decide⟩
theorem kn_X9_isNew : Kn yX9_isNew cX9_isNew 8 (some .boolean) 3 := ⟨wm_441, wm_162, by decide +kernel, by decide⟩
/-! ===== LitmusHouse$States.<init>()V ===== -/
def b_X9_init_0 (a0 : Nat) (h : AH) : Option (AH) :=
  (ok_h a0).bind fun x1 => (n_a h 101 (256 : Int32)).bind fun h2 => (p_r h2 a0 9 0 (hp_n h)).bind fun h3 => (n_a h3 101 (256 : Int32)).bind fun h4 => (p_r h4 a0 9 1 (hp_n h3)).bind fun h5 => (n_a h5 101 (256 : Int32)).bind fun h6 => (p_r h6 a0 9 2 (hp_n h5)).bind fun h7 => (n_a h7 100 (256 : Int32)).bind fun h8 => (p_r h8 a0 9 3 (hp_n h7)).bind fun h9 => (p_i h9 a0 9 4 (0 : Int32)).bind fun h10 => (p_i h10 a0 9 5 (0 : Int32)).bind fun h11 => some h11
set_option maxHeartbeats 4000000 in
set_option maxRecDepth 100000 in
theorem q_X9_init_0 {a0 : Nat} {h hE : AH} (hf : b_X9_init_0 a0 h = some hE) : JD cX9_init 1 RX9 "<init>" none (2) 0 [(0, .inr (.inr (a0)))] [] h hE none := by
  unfold b_X9_init_0 at hf
  obtain ⟨x1, e1, hf⟩ := bnd hf
  obtain ⟨h2, e2, hf⟩ := bnd hf
  have m2 := nn_n e2
  obtain ⟨h3, e3, hf⟩ := bnd hf
  have m3 := nn_pr e3
  obtain ⟨h4, e4, hf⟩ := bnd hf
  have m4 := nn_n e4
  obtain ⟨h5, e5, hf⟩ := bnd hf
  have m5 := nn_pr e5
  obtain ⟨h6, e6, hf⟩ := bnd hf
  have m6 := nn_n e6
  obtain ⟨h7, e7, hf⟩ := bnd hf
  have m7 := nn_pr e7
  obtain ⟨h8, e8, hf⟩ := bnd hf
  have m8 := nn_n e8
  obtain ⟨h9, e9, hf⟩ := bnd hf
  have m9 := nn_pr e9
  obtain ⟨h10, e10, hf⟩ := bnd hf
  have m10 := nn_pi e10
  obtain ⟨h11, e11, hf⟩ := bnd hf
  have m11 := nn_pi e11
  have hh := Option.some.inj hf
  subst hh
  have mE : hp_n h11 ≤ hp_n h11 ∧ hp_s h11 ≤ hp_s h11 := ⟨Nat.le_refl _, Nat.le_refl _⟩
  refine ⟨by omega, fun X g K ok nmx lev hK en => ?_⟩
  refine tj_aload_n ok 0 dX9_init_0 rfl rfl ?_
  refine tj_objInit (rest := ([] : List TV).map (vl g)) ok lev (by omega) (of_if e1).1 wm_163 wm_75 wm_obj (rs_ok (Nat.le_of_ble_eq_true rfl)) dX9_init_1 ?_
  refine tj_aload_n ok 0 dX9_init_4 rfl rfl ?_
  refine tj_sipush (v := 256) ok dX9_init_5 (by decide) ?_
  refine tj_newJ ok wm_164 dX9_init_8 e2 (CaX.of en (by omega)) ?_
  refine tj_putR (k := 0) ok fcX9 (by decide) wm_165 rfl (Or.inl rfl) (Or.inr ⟨_, rfl⟩) dX9_init_10 e3 ?_
  refine tj_aload_n ok 0 dX9_init_13 rfl rfl ?_
  refine tj_sipush (v := 256) ok dX9_init_14 (by decide) ?_
  refine tj_newJ ok wm_164 dX9_init_17 e4 (CaX.of en (by omega)) ?_
  refine tj_putR (k := 1) ok fcX9 (by decide) wm_166 rfl (Or.inl rfl) (Or.inr ⟨_, rfl⟩) dX9_init_19 e5 ?_
  refine tj_aload_n ok 0 dX9_init_22 rfl rfl ?_
  refine tj_sipush (v := 256) ok dX9_init_23 (by decide) ?_
  refine tj_newJ ok wm_164 dX9_init_26 e6 (CaX.of en (by omega)) ?_
  refine tj_putR (k := 2) ok fcX9 (by decide) wm_167 rfl (Or.inl rfl) (Or.inr ⟨_, rfl⟩) dX9_init_28 e7 ?_
  refine tj_aload_n ok 0 dX9_init_31 rfl rfl ?_
  refine tj_sipush (v := 256) ok dX9_init_32 (by decide) ?_
  refine tj_newI ok wm_39 dX9_init_35 e8 (CaX.of en (by omega)) ?_
  refine tj_putR (k := 3) ok fcX9 (by decide) wm_168 rfl (Or.inl rfl) (Or.inr ⟨_, rfl⟩) dX9_init_37 e9 ?_
  refine tj_aload_n ok 0 dX9_init_40 rfl rfl ?_
  refine tj_iconst (v := 0) ok dX9_init_41 (by decide) ?_
  refine tj_putI (k := 4) ok fcX9 (by decide) wm_169 rfl (Or.inl rfl) rfl dX9_init_42 e10 ?_
  refine tj_aload_n ok 0 dX9_init_45 rfl rfl ?_
  refine tj_iconst (v := 0) ok dX9_init_46 (by decide) ?_
  refine tj_putI (k := 5) ok fcX9 (by decide) wm_170 rfl (Or.inl rfl) rfl dX9_init_47 e11 ?_
  exact tj_return ok en dX9_init_50
def f_X9_init (a0 : Nat) (h : AH) : Option (AH) := b_X9_init_0  a0 h
theorem c_X9_init {a0 : Nat} {h hE : AH} (hf : f_X9_init a0 h = some hE) : ∀ g : GT, CM g (2) yX9_init cX9_init 1 none h [.inr (.inr (a0))] hE none :=
  CM.ofJ (by decide) (by show _ ≤ 1; exact Nat.le_of_ble_eq_true rfl) (q_X9_init_0 hf)
/-! ===== LitmusHouse$States.clear()V ===== -/
def b_X9_clear_0 (a0 : Nat) (h : AH) : Option (AH) :=
  (g_i h a0 9 4).bind fun x1 => (p_i h a0 9 4 (x1 + (1 : Int32))).bind fun h2 => (p_i h2 a0 9 5 (0 : Int32)).bind fun h3 => some h3
set_option maxHeartbeats 4000000 in
set_option maxRecDepth 100000 in
theorem q_X9_clear_0 {a0 : Nat} {h hE : AH} (hf : b_X9_clear_0 a0 h = some hE) : JD cX9_clear 1 RX9 "clear" none (2) 0 [(0, .inr (.inr (a0)))] [] h hE none := by
  unfold b_X9_clear_0 at hf
  obtain ⟨x1, e1, hf⟩ := bnd hf
  obtain ⟨h2, e2, hf⟩ := bnd hf
  have m2 := nn_pi e2
  obtain ⟨h3, e3, hf⟩ := bnd hf
  have m3 := nn_pi e3
  have hh := Option.some.inj hf
  subst hh
  have mE : hp_n h3 ≤ hp_n h3 ∧ hp_s h3 ≤ hp_s h3 := ⟨Nat.le_refl _, Nat.le_refl _⟩
  refine ⟨by omega, fun X g K ok nmx lev hK en => ?_⟩
  refine tj_aload_n ok 0 dX9_clear_0 rfl rfl ?_
  refine tj_dupa ok dX9_clear_1 ?_
  refine tj_getI (k := 4) ok fcX9 (by decide) wm_169 rfl (Or.inl rfl) dX9_clear_2 e1 ?_
  refine tj_iconst (v := 1) ok dX9_clear_5 (by decide) ?_
  refine tj_iadd ok dX9_clear_6 ?_
  refine tj_putI (k := 4) ok fcX9 (by decide) wm_169 rfl (Or.inl rfl) rfl dX9_clear_7 e2 ?_
  refine tj_aload_n ok 0 dX9_clear_10 rfl rfl ?_
  refine tj_iconst (v := 0) ok dX9_clear_11 (by decide) ?_
  refine tj_putI (k := 5) ok fcX9 (by decide) wm_170 rfl (Or.inl rfl) rfl dX9_clear_12 e3 ?_
  exact tj_return ok en dX9_clear_15
def f_X9_clear (a0 : Nat) (h : AH) : Option (AH) := b_X9_clear_0  a0 h
theorem c_X9_clear {a0 : Nat} {h hE : AH} (hf : f_X9_clear a0 h = some hE) : ∀ g : GT, CM g (2) yX9_clear cX9_clear 1 none h [.inr (.inr (a0))] hE none :=
  CM.ofJ (by decide) (by show _ ≤ 1; exact Nat.le_of_ble_eq_true rfl) (q_X9_clear_0 hf)
/-! ===== LitmusHouse$States.put(IJJJ)V ===== -/
def b_X9_put_0 (a0 : Nat) (a1 : Int32) (a2 : Int64) (a4 : Int64) (a6 : Int64) (h : AH) : Option (AH) :=
  (g_r h a0 9 3).bind fun x1 => (g_i h a0 9 4).bind fun x2 => (s_i h x1 a1 x2).bind fun h3 => (g_r h3 a0 9 0).bind fun x4 => (s_j h3 x4 a1 a2).bind fun h5 => (g_r h5 a0 9 1).bind fun x6 => (s_j h5 x6 a1 a4).bind fun h7 => (g_r h7 a0 9 2).bind fun x8 => (s_j h7 x8 a1 a6).bind fun h9 => (g_i h9 a0 9 5).bind fun x10 => (p_i h9 a0 9 5 (x10 + (1 : Int32))).bind fun h11 => some h11
set_option maxHeartbeats 4000000 in
set_option maxRecDepth 100000 in
theorem q_X9_put_0 {a0 : Nat} {a1 : Int32} {a2 : Int64} {a4 : Int64} {a6 : Int64} {h hE : AH} (hf : b_X9_put_0 a0 a1 a2 a4 a6 h = some hE) : JD cX9_put 8 RX9 "put" none (2) 0 [(0, .inr (.inr (a0))), (1, .inl (a1)), (2, .inr (.inl (a2))), (4, .inr (.inl (a4))), (6, .inr (.inl (a6)))] [] h hE none := by
  unfold b_X9_put_0 at hf
  obtain ⟨x1, e1, hf⟩ := bnd hf
  obtain ⟨x2, e2, hf⟩ := bnd hf
  obtain ⟨h3, e3, hf⟩ := bnd hf
  have m3 := nn_si e3
  obtain ⟨x4, e4, hf⟩ := bnd hf
  obtain ⟨h5, e5, hf⟩ := bnd hf
  have m5 := nn_sj e5
  obtain ⟨x6, e6, hf⟩ := bnd hf
  obtain ⟨h7, e7, hf⟩ := bnd hf
  have m7 := nn_sj e7
  obtain ⟨x8, e8, hf⟩ := bnd hf
  obtain ⟨h9, e9, hf⟩ := bnd hf
  have m9 := nn_sj e9
  obtain ⟨x10, e10, hf⟩ := bnd hf
  obtain ⟨h11, e11, hf⟩ := bnd hf
  have m11 := nn_pi e11
  have hh := Option.some.inj hf
  subst hh
  have mE : hp_n h11 ≤ hp_n h11 ∧ hp_s h11 ≤ hp_s h11 := ⟨Nat.le_refl _, Nat.le_refl _⟩
  refine ⟨by omega, fun X g K ok nmx lev hK en => ?_⟩
  refine tj_aload_n ok 0 dX9_put_0 rfl rfl ?_
  refine tj_getR (k := 3) ok fcX9 (by decide) wm_168 rfl (Or.inr ⟨_, rfl⟩) dX9_put_1 e1 ?_
  refine tj_iload_n ok 1 dX9_put_4 rfl rfl ?_
  refine tj_aload_n ok 0 dX9_put_5 rfl rfl ?_
  refine tj_getI (k := 4) ok fcX9 (by decide) wm_169 rfl (Or.inl rfl) dX9_put_6 e2 ?_
  refine tj_iastore ok dX9_put_9 e3 ?_
  refine tj_aload_n ok 0 dX9_put_10 rfl rfl ?_
  refine tj_getR (k := 0) ok fcX9 (by decide) wm_165 rfl (Or.inr ⟨_, rfl⟩) dX9_put_11 e4 ?_
  refine tj_iload_n ok 1 dX9_put_14 rfl rfl ?_
  refine tj_lload_n ok 2 dX9_put_15 rfl rfl ?_
  refine tj_lastore ok dX9_put_16 e5 ?_
  refine tj_aload_n ok 0 dX9_put_17 rfl rfl ?_
  refine tj_getR (k := 1) ok fcX9 (by decide) wm_166 rfl (Or.inr ⟨_, rfl⟩) dX9_put_18 e6 ?_
  refine tj_iload_n ok 1 dX9_put_21 rfl rfl ?_
  refine tj_lload ok 3 dX9_put_22 rfl ?_
  refine tj_lastore ok dX9_put_24 e7 ?_
  refine tj_aload_n ok 0 dX9_put_25 rfl rfl ?_
  refine tj_getR (k := 2) ok fcX9 (by decide) wm_167 rfl (Or.inr ⟨_, rfl⟩) dX9_put_26 e8 ?_
  refine tj_iload_n ok 1 dX9_put_29 rfl rfl ?_
  refine tj_lload ok 4 dX9_put_30 rfl ?_
  refine tj_lastore ok dX9_put_32 e9 ?_
  refine tj_aload_n ok 0 dX9_put_33 rfl rfl ?_
  refine tj_dupa ok dX9_put_34 ?_
  refine tj_getI (k := 5) ok fcX9 (by decide) wm_170 rfl (Or.inl rfl) dX9_put_35 e10 ?_
  refine tj_iconst (v := 1) ok dX9_put_38 (by decide) ?_
  refine tj_iadd ok dX9_put_39 ?_
  refine tj_putI (k := 5) ok fcX9 (by decide) wm_170 rfl (Or.inl rfl) rfl dX9_put_40 e11 ?_
  exact tj_return ok en dX9_put_43
def f_X9_put (a0 : Nat) (a1 : Int32) (a2 : Int64) (a4 : Int64) (a6 : Int64) (h : AH) : Option (AH) := b_X9_put_0  a0 a1 a2 a4 a6 h
theorem c_X9_put {a0 : Nat} {a1 : Int32} {a2 : Int64} {a4 : Int64} {a6 : Int64} {h hE : AH} (hf : f_X9_put a0 a1 a2 a4 a6 h = some hE) : ∀ g : GT, CM g (2) yX9_put cX9_put 8 none h [.inr (.inr (a0)), .inl (a1), .inr (.inl (a2)), .inr (.inl (a4)), .inr (.inl (a6))] hE none :=
  CM.ofJ (by decide) (by show _ ≤ 8; exact Nat.le_of_ble_eq_true rfl) (q_X9_put_0 hf)
/-! ===== LitmusHouse$States.slotOf(JJJ)I ===== -/
def b_X9_slotOf_125  (h : AH) : Option (Int32 × AH) :=
  some ((-1 : Int32), h)
set_option maxHeartbeats 4000000 in
set_option maxRecDepth 100000 in
theorem q_X9_slotOf_125 {h hE : AH} {v : Int32} (hf : b_X9_slotOf_125  h = some (v, hE)) : JD cX9_slotOf 12 RX9 "slotOf" (some .int) (2) 125 [] [] h hE (some (.inl (v))) := by
  unfold b_X9_slotOf_125 at hf
  obtain ⟨hv, hh⟩ := Prod.mk.inj (Option.some.inj hf)
  subst hv
  subst hh
  have mE : hp_n h ≤ hp_n h ∧ hp_s h ≤ hp_s h := ⟨Nat.le_refl _, Nat.le_refl _⟩
  refine ⟨by omega, fun X g K ok nmx lev hK en => ?_⟩
  refine tj_iconst (v := -1) ok dX9_slotOf_125 (by decide) ?_
  exact tj_ireturn ok en dX9_slotOf_126
def b_X9_slotOf_107 (a10 : Int32) (h : AH) : Option (Int32 × AH) :=
  some (a10, h)
set_option maxHeartbeats 4000000 in
set_option maxRecDepth 100000 in
theorem q_X9_slotOf_107 {a10 : Int32} {h hE : AH} {v : Int32} (hf : b_X9_slotOf_107 a10 h = some (v, hE)) : JD cX9_slotOf 12 RX9 "slotOf" (some .int) (2) 107 [(10, .inl (a10))] [] h hE (some (.inl (v))) := by
  unfold b_X9_slotOf_107 at hf
  obtain ⟨hv, hh⟩ := Prod.mk.inj (Option.some.inj hf)
  subst hv
  subst hh
  have mE : hp_n h ≤ hp_n h ∧ hp_s h ≤ hp_s h := ⟨Nat.le_refl _, Nat.le_refl _⟩
  refine ⟨by omega, fun X g K ok nmx lev hK en => ?_⟩
  refine tj_iload ok 0 dX9_slotOf_107 rfl ?_
  exact tj_ireturn ok en dX9_slotOf_109
def b_X9_slotOf_110 (r49 : Nat → Int64 → Int64 → Int64 → Int32 → Int32 → Int32 → AH → Option (Int32 × AH)) (a0 : Nat) (a1 : Int64) (a3 : Int64) (a5 : Int64) (a7 : Int32) (a10 : Int32) (a11 : Int32) (h : AH) : Option (Int32 × AH) :=
  r49 a0 a1 a3 a5 a7 ((a10 + (1 : Int32)) &&& a7) (a11 + (1 : Int32)) h
set_option maxHeartbeats 4000000 in
set_option maxRecDepth 100000 in
theorem q_X9_slotOf_110 {hE : AH} {v : Int32} {r49 : Nat → Int64 → Int64 → Int64 → Int32 → Int32 → Int32 → AH → Option (Int32 × AH)} (hr49 : ∀ (b0 : Nat) (b1 : Int64) (b3 : Int64) (b5 : Int64) (b7 : Int32) (b10 : Int32) (b11 : Int32) (h : AH), r49 b0 b1 b3 b5 b7 b10 b11 h = some (v, hE) → JD cX9_slotOf 12 RX9 "slotOf" (some .int) (2) 49 [(0, .inr (.inr (b0))), (1, .inr (.inl (b1))), (3, .inr (.inl (b3))), (5, .inr (.inl (b5))), (7, .inl (b7)), (10, .inl (b10)), (11, .inl (b11))] [] h hE (some (.inl (v)))) {a0 : Nat} {a1 : Int64} {a3 : Int64} {a5 : Int64} {a7 : Int32} {a10 : Int32} {a11 : Int32} {h : AH} (hf : b_X9_slotOf_110 r49 a0 a1 a3 a5 a7 a10 a11 h = some (v, hE)) : JD cX9_slotOf 12 RX9 "slotOf" (some .int) (2) 110 [(0, .inr (.inr (a0))), (1, .inr (.inl (a1))), (3, .inr (.inl (a3))), (5, .inr (.inl (a5))), (7, .inl (a7)), (10, .inl (a10)), (11, .inl (a11))] [] h hE (some (.inl (v))) := by
  unfold b_X9_slotOf_110 at hf
  have J := hr49 _ _ _ _ _ _ _ _ hf
  have mE := J.1
  refine ⟨by omega, fun X g K ok nmx lev hK en => ?_⟩
  refine tj_iload ok 5 dX9_slotOf_110 rfl ?_
  refine tj_iconst (v := 1) ok dX9_slotOf_112 (by decide) ?_
  refine tj_iadd ok dX9_slotOf_113 ?_
  refine tj_iload ok 4 dX9_slotOf_114 rfl ?_
  refine tj_iand ok dX9_slotOf_116 ?_
  refine tj_istore (lv' := [(0, .inr (.inr (a0))), (1, .inr (.inl (a1))), (3, .inr (.inl (a3))), (5, .inr (.inl (a5))), (7, .inl (a7)), (10, .inl ((a10 + (1 : Int32)) &&& a7)), (11, .inl (a11))]) ok dX9_slotOf_117 (by decide) rfl ?_
  refine tj_iinc (lv' := [(0, .inr (.inr (a0))), (1, .inr (.inl (a1))), (3, .inr (.inl (a3))), (5, .inr (.inl (a5))), (7, .inl (a7)), (10, .inl ((a10 + (1 : Int32)) &&& a7)), (11, .inl (a11 + (1 : Int32)))]) ok 6 dX9_slotOf_119 rfl (rfl) (by decide) rfl ?_
  refine tj_goto (tgt := 49) ok dX9_slotOf_122 (by decide) ?_
  exact J.2 X g K ok nmx lev hK en
def b_X9_slotOf_94 (r49 : Nat → Int64 → Int64 → Int64 → Int32 → Int32 → Int32 → AH → Option (Int32 × AH)) (a0 : Nat) (a1 : Int64) (a3 : Int64) (a5 : Int64) (a7 : Int32) (a10 : Int32) (a11 : Int32) (h : AH) : Option (Int32 × AH) :=
  (g_r h a0 9 2).bind fun x1 => (l_j h x1 a10).bind fun x2 => if (lg_cmp x2 a5) = 0 then b_X9_slotOf_107 a10 h else b_X9_slotOf_110 r49 a0 a1 a3 a5 a7 a10 a11 h
set_option maxHeartbeats 4000000 in
set_option maxRecDepth 100000 in
theorem q_X9_slotOf_94 {hE : AH} {v : Int32} {r49 : Nat → Int64 → Int64 → Int64 → Int32 → Int32 → Int32 → AH → Option (Int32 × AH)} (hr49 : ∀ (b0 : Nat) (b1 : Int64) (b3 : Int64) (b5 : Int64) (b7 : Int32) (b10 : Int32) (b11 : Int32) (h : AH), r49 b0 b1 b3 b5 b7 b10 b11 h = some (v, hE) → JD cX9_slotOf 12 RX9 "slotOf" (some .int) (2) 49 [(0, .inr (.inr (b0))), (1, .inr (.inl (b1))), (3, .inr (.inl (b3))), (5, .inr (.inl (b5))), (7, .inl (b7)), (10, .inl (b10)), (11, .inl (b11))] [] h hE (some (.inl (v)))) {a0 : Nat} {a1 : Int64} {a3 : Int64} {a5 : Int64} {a7 : Int32} {a10 : Int32} {a11 : Int32} {h : AH} (hf : b_X9_slotOf_94 r49 a0 a1 a3 a5 a7 a10 a11 h = some (v, hE)) : JD cX9_slotOf 12 RX9 "slotOf" (some .int) (2) 94 [(0, .inr (.inr (a0))), (1, .inr (.inl (a1))), (3, .inr (.inl (a3))), (5, .inr (.inl (a5))), (7, .inl (a7)), (10, .inl (a10)), (11, .inl (a11))] [] h hE (some (.inl (v))) := by
  unfold b_X9_slotOf_94 at hf
  obtain ⟨x1, e1, hf⟩ := bnd hf
  obtain ⟨x2, e2, hf⟩ := bnd hf
  have mE : hp_n h ≤ hp_n hE ∧ hp_s h ≤ hp_s hE := by
    by_cases hc : (lg_cmp x2 a5) = 0
    · rw [if_pos hc] at hf; exact (q_X9_slotOf_107 hf).1
    · rw [if_neg hc] at hf; exact (q_X9_slotOf_110 hr49 hf).1
  refine ⟨by omega, fun X g K ok nmx lev hK en => ?_⟩
  refine tj_aload_n ok 0 dX9_slotOf_94 rfl rfl ?_
  refine tj_getR (k := 2) ok fcX9 (by decide) wm_167 rfl (Or.inr ⟨_, rfl⟩) dX9_slotOf_95 e1 ?_
  refine tj_iload ok 5 dX9_slotOf_98 rfl ?_
  refine tj_laload ok dX9_slotOf_100 e2 ?_
  refine tj_lload ok 3 dX9_slotOf_101 rfl ?_
  refine tj_lcmp ok dX9_slotOf_103 ?_
  refine tj_if_ne (tgt := 110) ok dX9_slotOf_104 (by decide) (fun hc => ?_) (fun hc => ?_)
  · rw [if_neg hc] at hf
    exact (q_X9_slotOf_110 hr49 hf).2 X g K ok nmx lev hK en
  · rw [if_pos hc] at hf
    refine tj_sub (lv' := [(10, .inl (a10))]) [5] rfl ?_
    exact (q_X9_slotOf_107 hf).2 X g K ok nmx lev hK en
def b_X9_slotOf_82 (r49 : Nat → Int64 → Int64 → Int64 → Int32 → Int32 → Int32 → AH → Option (Int32 × AH)) (a0 : Nat) (a1 : Int64) (a3 : Int64) (a5 : Int64) (a7 : Int32) (a10 : Int32) (a11 : Int32) (h : AH) : Option (Int32 × AH) :=
  (g_r h a0 9 1).bind fun x1 => (l_j h x1 a10).bind fun x2 => if (lg_cmp x2 a3) = 0 then b_X9_slotOf_94 r49 a0 a1 a3 a5 a7 a10 a11 h else b_X9_slotOf_110 r49 a0 a1 a3 a5 a7 a10 a11 h
set_option maxHeartbeats 4000000 in
set_option maxRecDepth 100000 in
theorem q_X9_slotOf_82 {hE : AH} {v : Int32} {r49 : Nat → Int64 → Int64 → Int64 → Int32 → Int32 → Int32 → AH → Option (Int32 × AH)} (hr49 : ∀ (b0 : Nat) (b1 : Int64) (b3 : Int64) (b5 : Int64) (b7 : Int32) (b10 : Int32) (b11 : Int32) (h : AH), r49 b0 b1 b3 b5 b7 b10 b11 h = some (v, hE) → JD cX9_slotOf 12 RX9 "slotOf" (some .int) (2) 49 [(0, .inr (.inr (b0))), (1, .inr (.inl (b1))), (3, .inr (.inl (b3))), (5, .inr (.inl (b5))), (7, .inl (b7)), (10, .inl (b10)), (11, .inl (b11))] [] h hE (some (.inl (v)))) {a0 : Nat} {a1 : Int64} {a3 : Int64} {a5 : Int64} {a7 : Int32} {a10 : Int32} {a11 : Int32} {h : AH} (hf : b_X9_slotOf_82 r49 a0 a1 a3 a5 a7 a10 a11 h = some (v, hE)) : JD cX9_slotOf 12 RX9 "slotOf" (some .int) (2) 82 [(0, .inr (.inr (a0))), (1, .inr (.inl (a1))), (3, .inr (.inl (a3))), (5, .inr (.inl (a5))), (7, .inl (a7)), (10, .inl (a10)), (11, .inl (a11))] [] h hE (some (.inl (v))) := by
  unfold b_X9_slotOf_82 at hf
  obtain ⟨x1, e1, hf⟩ := bnd hf
  obtain ⟨x2, e2, hf⟩ := bnd hf
  have mE : hp_n h ≤ hp_n hE ∧ hp_s h ≤ hp_s hE := by
    by_cases hc : (lg_cmp x2 a3) = 0
    · rw [if_pos hc] at hf; exact (q_X9_slotOf_94 hr49 hf).1
    · rw [if_neg hc] at hf; exact (q_X9_slotOf_110 hr49 hf).1
  refine ⟨by omega, fun X g K ok nmx lev hK en => ?_⟩
  refine tj_aload_n ok 0 dX9_slotOf_82 rfl rfl ?_
  refine tj_getR (k := 1) ok fcX9 (by decide) wm_166 rfl (Or.inr ⟨_, rfl⟩) dX9_slotOf_83 e1 ?_
  refine tj_iload ok 5 dX9_slotOf_86 rfl ?_
  refine tj_laload ok dX9_slotOf_88 e2 ?_
  refine tj_lload_n ok 2 dX9_slotOf_89 rfl rfl ?_
  refine tj_lcmp ok dX9_slotOf_90 ?_
  refine tj_if_ne (tgt := 110) ok dX9_slotOf_91 (by decide) (fun hc => ?_) (fun hc => ?_)
  · rw [if_neg hc] at hf
    exact (q_X9_slotOf_110 hr49 hf).2 X g K ok nmx lev hK en
  · rw [if_pos hc] at hf
    exact (q_X9_slotOf_94 hr49 hf).2 X g K ok nmx lev hK en
def b_X9_slotOf_70 (r49 : Nat → Int64 → Int64 → Int64 → Int32 → Int32 → Int32 → AH → Option (Int32 × AH)) (a0 : Nat) (a1 : Int64) (a3 : Int64) (a5 : Int64) (a7 : Int32) (a10 : Int32) (a11 : Int32) (h : AH) : Option (Int32 × AH) :=
  (g_r h a0 9 0).bind fun x1 => (l_j h x1 a10).bind fun x2 => if (lg_cmp x2 a1) = 0 then b_X9_slotOf_82 r49 a0 a1 a3 a5 a7 a10 a11 h else b_X9_slotOf_110 r49 a0 a1 a3 a5 a7 a10 a11 h
set_option maxHeartbeats 4000000 in
set_option maxRecDepth 100000 in
theorem q_X9_slotOf_70 {hE : AH} {v : Int32} {r49 : Nat → Int64 → Int64 → Int64 → Int32 → Int32 → Int32 → AH → Option (Int32 × AH)} (hr49 : ∀ (b0 : Nat) (b1 : Int64) (b3 : Int64) (b5 : Int64) (b7 : Int32) (b10 : Int32) (b11 : Int32) (h : AH), r49 b0 b1 b3 b5 b7 b10 b11 h = some (v, hE) → JD cX9_slotOf 12 RX9 "slotOf" (some .int) (2) 49 [(0, .inr (.inr (b0))), (1, .inr (.inl (b1))), (3, .inr (.inl (b3))), (5, .inr (.inl (b5))), (7, .inl (b7)), (10, .inl (b10)), (11, .inl (b11))] [] h hE (some (.inl (v)))) {a0 : Nat} {a1 : Int64} {a3 : Int64} {a5 : Int64} {a7 : Int32} {a10 : Int32} {a11 : Int32} {h : AH} (hf : b_X9_slotOf_70 r49 a0 a1 a3 a5 a7 a10 a11 h = some (v, hE)) : JD cX9_slotOf 12 RX9 "slotOf" (some .int) (2) 70 [(0, .inr (.inr (a0))), (1, .inr (.inl (a1))), (3, .inr (.inl (a3))), (5, .inr (.inl (a5))), (7, .inl (a7)), (10, .inl (a10)), (11, .inl (a11))] [] h hE (some (.inl (v))) := by
  unfold b_X9_slotOf_70 at hf
  obtain ⟨x1, e1, hf⟩ := bnd hf
  obtain ⟨x2, e2, hf⟩ := bnd hf
  have mE : hp_n h ≤ hp_n hE ∧ hp_s h ≤ hp_s hE := by
    by_cases hc : (lg_cmp x2 a1) = 0
    · rw [if_pos hc] at hf; exact (q_X9_slotOf_82 hr49 hf).1
    · rw [if_neg hc] at hf; exact (q_X9_slotOf_110 hr49 hf).1
  refine ⟨by omega, fun X g K ok nmx lev hK en => ?_⟩
  refine tj_aload_n ok 0 dX9_slotOf_70 rfl rfl ?_
  refine tj_getR (k := 0) ok fcX9 (by decide) wm_165 rfl (Or.inr ⟨_, rfl⟩) dX9_slotOf_71 e1 ?_
  refine tj_iload ok 5 dX9_slotOf_74 rfl ?_
  refine tj_laload ok dX9_slotOf_76 e2 ?_
  refine tj_lload_n ok 1 dX9_slotOf_77 rfl rfl ?_
  refine tj_lcmp ok dX9_slotOf_78 ?_
  refine tj_if_ne (tgt := 110) ok dX9_slotOf_79 (by decide) (fun hc => ?_) (fun hc => ?_)
  · rw [if_neg hc] at hf
    exact (q_X9_slotOf_110 hr49 hf).2 X g K ok nmx lev hK en
  · rw [if_pos hc] at hf
    exact (q_X9_slotOf_82 hr49 hf).2 X g K ok nmx lev hK en
def b_X9_slotOf_56 (r49 : Nat → Int64 → Int64 → Int64 → Int32 → Int32 → Int32 → AH → Option (Int32 × AH)) (a0 : Nat) (a1 : Int64) (a3 : Int64) (a5 : Int64) (a7 : Int32) (a10 : Int32) (a11 : Int32) (h : AH) : Option (Int32 × AH) :=
  (g_r h a0 9 3).bind fun x1 => (l_i h x1 a10).bind fun x2 => (g_i h a0 9 4).bind fun x3 => if x2 = x3 then b_X9_slotOf_70 r49 a0 a1 a3 a5 a7 a10 a11 h else b_X9_slotOf_107 a10 h
set_option maxHeartbeats 4000000 in
set_option maxRecDepth 100000 in
theorem q_X9_slotOf_56 {hE : AH} {v : Int32} {r49 : Nat → Int64 → Int64 → Int64 → Int32 → Int32 → Int32 → AH → Option (Int32 × AH)} (hr49 : ∀ (b0 : Nat) (b1 : Int64) (b3 : Int64) (b5 : Int64) (b7 : Int32) (b10 : Int32) (b11 : Int32) (h : AH), r49 b0 b1 b3 b5 b7 b10 b11 h = some (v, hE) → JD cX9_slotOf 12 RX9 "slotOf" (some .int) (2) 49 [(0, .inr (.inr (b0))), (1, .inr (.inl (b1))), (3, .inr (.inl (b3))), (5, .inr (.inl (b5))), (7, .inl (b7)), (10, .inl (b10)), (11, .inl (b11))] [] h hE (some (.inl (v)))) {a0 : Nat} {a1 : Int64} {a3 : Int64} {a5 : Int64} {a7 : Int32} {a10 : Int32} {a11 : Int32} {h : AH} (hf : b_X9_slotOf_56 r49 a0 a1 a3 a5 a7 a10 a11 h = some (v, hE)) : JD cX9_slotOf 12 RX9 "slotOf" (some .int) (2) 56 [(0, .inr (.inr (a0))), (1, .inr (.inl (a1))), (3, .inr (.inl (a3))), (5, .inr (.inl (a5))), (7, .inl (a7)), (10, .inl (a10)), (11, .inl (a11))] [] h hE (some (.inl (v))) := by
  unfold b_X9_slotOf_56 at hf
  obtain ⟨x1, e1, hf⟩ := bnd hf
  obtain ⟨x2, e2, hf⟩ := bnd hf
  obtain ⟨x3, e3, hf⟩ := bnd hf
  have mE : hp_n h ≤ hp_n hE ∧ hp_s h ≤ hp_s hE := by
    by_cases hc : x2 = x3
    · rw [if_pos hc] at hf; exact (q_X9_slotOf_70 hr49 hf).1
    · rw [if_neg hc] at hf; exact (q_X9_slotOf_107 hf).1
  refine ⟨by omega, fun X g K ok nmx lev hK en => ?_⟩
  refine tj_aload_n ok 0 dX9_slotOf_56 rfl rfl ?_
  refine tj_getR (k := 3) ok fcX9 (by decide) wm_168 rfl (Or.inr ⟨_, rfl⟩) dX9_slotOf_57 e1 ?_
  refine tj_iload ok 5 dX9_slotOf_60 rfl ?_
  refine tj_iaload ok dX9_slotOf_62 e2 ?_
  refine tj_aload_n ok 0 dX9_slotOf_63 rfl rfl ?_
  refine tj_getI (k := 4) ok fcX9 (by decide) wm_169 rfl (Or.inl rfl) dX9_slotOf_64 e3 ?_
  refine tj_icmp_ne (tgt := 107) ok dX9_slotOf_67 (by decide) (fun hc => ?_) (fun hc => ?_)
  · rw [if_neg hc] at hf
    refine tj_sub (lv' := [(10, .inl (a10))]) [5] rfl ?_
    exact (q_X9_slotOf_107 hf).2 X g K ok nmx lev hK en
  · rw [if_pos hc] at hf
    exact (q_X9_slotOf_70 hr49 hf).2 X g K ok nmx lev hK en
def b_X9_slotOf_49 (r49 : Nat → Int64 → Int64 → Int64 → Int32 → Int32 → Int32 → AH → Option (Int32 × AH)) (a0 : Nat) (a1 : Int64) (a3 : Int64) (a5 : Int64) (a7 : Int32) (a10 : Int32) (a11 : Int32) (h : AH) : Option (Int32 × AH) :=
  if a7 < a11 then b_X9_slotOf_125 h else b_X9_slotOf_56 r49 a0 a1 a3 a5 a7 a10 a11 h
set_option maxHeartbeats 4000000 in
set_option maxRecDepth 100000 in
theorem q_X9_slotOf_49 {hE : AH} {v : Int32} {r49 : Nat → Int64 → Int64 → Int64 → Int32 → Int32 → Int32 → AH → Option (Int32 × AH)} (hr49 : ∀ (b0 : Nat) (b1 : Int64) (b3 : Int64) (b5 : Int64) (b7 : Int32) (b10 : Int32) (b11 : Int32) (h : AH), r49 b0 b1 b3 b5 b7 b10 b11 h = some (v, hE) → JD cX9_slotOf 12 RX9 "slotOf" (some .int) (2) 49 [(0, .inr (.inr (b0))), (1, .inr (.inl (b1))), (3, .inr (.inl (b3))), (5, .inr (.inl (b5))), (7, .inl (b7)), (10, .inl (b10)), (11, .inl (b11))] [] h hE (some (.inl (v)))) {a0 : Nat} {a1 : Int64} {a3 : Int64} {a5 : Int64} {a7 : Int32} {a10 : Int32} {a11 : Int32} {h : AH} (hf : b_X9_slotOf_49 r49 a0 a1 a3 a5 a7 a10 a11 h = some (v, hE)) : JD cX9_slotOf 12 RX9 "slotOf" (some .int) (2) 49 [(0, .inr (.inr (a0))), (1, .inr (.inl (a1))), (3, .inr (.inl (a3))), (5, .inr (.inl (a5))), (7, .inl (a7)), (10, .inl (a10)), (11, .inl (a11))] [] h hE (some (.inl (v))) := by
  unfold b_X9_slotOf_49 at hf
  have mE : hp_n h ≤ hp_n hE ∧ hp_s h ≤ hp_s hE := by
    by_cases hc : a7 < a11
    · rw [if_pos hc] at hf; exact (q_X9_slotOf_125 hf).1
    · rw [if_neg hc] at hf; exact (q_X9_slotOf_56 hr49 hf).1
  refine ⟨by omega, fun X g K ok nmx lev hK en => ?_⟩
  refine tj_iload ok 6 dX9_slotOf_49 rfl ?_
  refine tj_iload ok 4 dX9_slotOf_51 rfl ?_
  refine tj_icmp_gt (tgt := 125) ok dX9_slotOf_53 (by decide) (fun hc => ?_) (fun hc => ?_)
  · rw [if_pos hc] at hf
    refine tj_sub (lv' := []) [] rfl ?_
    exact (q_X9_slotOf_125 hf).2 X g K ok nmx lev hK en
  · rw [if_neg hc] at hf
    exact (q_X9_slotOf_56 hr49 hf).2 X g K ok nmx lev hK en
def l_X9_slotOf_49 : Nat → Nat → Int64 → Int64 → Int64 → Int32 → Int32 → Int32 → AH → Option (Int32 × AH)
  | 0 => fun _ _ _ _ _ _ _ _ => none
  | n + 1 => fun a0 a1 a3 a5 a7 a10 a11 h => b_X9_slotOf_49 (l_X9_slotOf_49 n) a0 a1 a3 a5 a7 a10 a11 h
theorem ql_X9_slotOf_49 {n : Nat} {a0 : Nat} {a1 : Int64} {a3 : Int64} {a5 : Int64} {a7 : Int32} {a10 : Int32} {a11 : Int32} {h hE : AH} {v : Int32} (hf : l_X9_slotOf_49 n a0 a1 a3 a5 a7 a10 a11 h = some (v, hE)) : JD cX9_slotOf 12 RX9 "slotOf" (some .int) (2) 49 [(0, .inr (.inr (a0))), (1, .inr (.inl (a1))), (3, .inr (.inl (a3))), (5, .inr (.inl (a5))), (7, .inl (a7)), (10, .inl (a10)), (11, .inl (a11))] [] h hE (some (.inl (v))) := by
  induction n generalizing a0 a1 a3 a5 a7 a10 a11 h with
  | zero => cases hf
  | succ n ih => exact q_X9_slotOf_49 (fun _ _ _ _ _ _ _ _ hf => ih hf) hf
def b_X9_slotOf_0 (a0 : Nat) (a1 : Int64) (a3 : Int64) (a5 : Int64) (h : AH) : Option (Int32 × AH) :=
  (g_r h a0 9 3).bind fun x1 => (al_n h x1).bind fun x2 => l_X9_slotOf_49 fu_ a0 a1 a3 a5 (x2 - (1 : Int32)) ((((us_j ((((a1 * (31 : Int64)) + a3) * (-7046029254386353131 : Int64)) + (a5 * (-4417276706812531889 : Int64))) (32 : Int32)) ^^^ (us_j ((((a1 * (31 : Int64)) + a3) * (-7046029254386353131 : Int64)) + (a5 * (-4417276706812531889 : Int64))) (15 : Int32))).toInt32) &&& (x2 - (1 : Int32))) (0 : Int32) h
set_option maxHeartbeats 4000000 in
set_option maxRecDepth 100000 in
theorem q_X9_slotOf_0 {a0 : Nat} {a1 : Int64} {a3 : Int64} {a5 : Int64} {h hE : AH} {v : Int32} (hf : b_X9_slotOf_0 a0 a1 a3 a5 h = some (v, hE)) : JD cX9_slotOf 12 RX9 "slotOf" (some .int) (2) 0 [(0, .inr (.inr (a0))), (1, .inr (.inl (a1))), (3, .inr (.inl (a3))), (5, .inr (.inl (a5)))] [] h hE (some (.inl (v))) := by
  unfold b_X9_slotOf_0 at hf
  obtain ⟨x1, e1, hf⟩ := bnd hf
  obtain ⟨x2, e2, hf⟩ := bnd hf
  have J := ql_X9_slotOf_49 hf
  have mE := J.1
  refine ⟨by omega, fun X g K ok nmx lev hK en => ?_⟩
  refine tj_aload_n ok 0 dX9_slotOf_0 rfl rfl ?_
  refine tj_getR (k := 3) ok fcX9 (by decide) wm_168 rfl (Or.inr ⟨_, rfl⟩) dX9_slotOf_1 e1 ?_
  refine tj_alen ok dX9_slotOf_4 e2 ?_
  refine tj_iconst (v := 1) ok dX9_slotOf_5 (by decide) ?_
  refine tj_isub ok dX9_slotOf_6 ?_
  refine tj_istore (lv' := [(0, .inr (.inr (a0))), (1, .inr (.inl (a1))), (3, .inr (.inl (a3))), (5, .inr (.inl (a5))), (7, .inl (x2 - (1 : Int32)))]) ok dX9_slotOf_7 (by decide) rfl ?_
  refine tj_lload_n ok 1 dX9_slotOf_9 rfl rfl ?_
  refine tj_ldc2 (v := 31) ok dX9_slotOf_10 wm_431 ?_
  refine tj_lmul ok dX9_slotOf_13 ?_
  refine tj_lload_n ok 2 dX9_slotOf_14 rfl rfl ?_
  refine tj_ladd ok dX9_slotOf_15 ?_
  refine tj_ldc2 (v := -7046029254386353131) ok dX9_slotOf_16 wm_432 ?_
  refine tj_lmul ok dX9_slotOf_19 ?_
  refine tj_lload ok 3 dX9_slotOf_20 rfl ?_
  refine tj_ldc2 (v := -4417276706812531889) ok dX9_slotOf_22 wm_433 ?_
  refine tj_lmul ok dX9_slotOf_25 ?_
  refine tj_ladd ok dX9_slotOf_26 ?_
  refine tj_lstore (lv' := [(0, .inr (.inr (a0))), (1, .inr (.inl (a1))), (3, .inr (.inl (a3))), (5, .inr (.inl (a5))), (7, .inl (x2 - (1 : Int32))), (8, .inr (.inl ((((a1 * (31 : Int64)) + a3) * (-7046029254386353131 : Int64)) + (a5 * (-4417276706812531889 : Int64)))))]) ok dX9_slotOf_27 (by decide) rfl ?_
  refine tj_lload ok 5 dX9_slotOf_29 rfl ?_
  refine tj_bipush (v := 32) ok dX9_slotOf_31 (by decide) ?_
  refine tj_lushr ok dX9_slotOf_33 ?_
  refine tj_lload ok 5 dX9_slotOf_34 rfl ?_
  refine tj_bipush (v := 15) ok dX9_slotOf_36 (by decide) ?_
  refine tj_lushr ok dX9_slotOf_38 ?_
  refine tj_lxor ok dX9_slotOf_39 ?_
  refine tj_l2i ok dX9_slotOf_40 ?_
  refine tj_iload ok 4 dX9_slotOf_41 rfl ?_
  refine tj_iand ok dX9_slotOf_43 ?_
  refine tj_istore (lv' := [(0, .inr (.inr (a0))), (1, .inr (.inl (a1))), (3, .inr (.inl (a3))), (5, .inr (.inl (a5))), (7, .inl (x2 - (1 : Int32))), (8, .inr (.inl ((((a1 * (31 : Int64)) + a3) * (-7046029254386353131 : Int64)) + (a5 * (-4417276706812531889 : Int64))))), (10, .inl ((((us_j ((((a1 * (31 : Int64)) + a3) * (-7046029254386353131 : Int64)) + (a5 * (-4417276706812531889 : Int64))) (32 : Int32)) ^^^ (us_j ((((a1 * (31 : Int64)) + a3) * (-7046029254386353131 : Int64)) + (a5 * (-4417276706812531889 : Int64))) (15 : Int32))).toInt32) &&& (x2 - (1 : Int32))))]) ok dX9_slotOf_44 (by decide) rfl ?_
  refine tj_iconst (v := 0) ok dX9_slotOf_46 (by decide) ?_
  refine tj_istore (lv' := [(0, .inr (.inr (a0))), (1, .inr (.inl (a1))), (3, .inr (.inl (a3))), (5, .inr (.inl (a5))), (7, .inl (x2 - (1 : Int32))), (8, .inr (.inl ((((a1 * (31 : Int64)) + a3) * (-7046029254386353131 : Int64)) + (a5 * (-4417276706812531889 : Int64))))), (10, .inl ((((us_j ((((a1 * (31 : Int64)) + a3) * (-7046029254386353131 : Int64)) + (a5 * (-4417276706812531889 : Int64))) (32 : Int32)) ^^^ (us_j ((((a1 * (31 : Int64)) + a3) * (-7046029254386353131 : Int64)) + (a5 * (-4417276706812531889 : Int64))) (15 : Int32))).toInt32) &&& (x2 - (1 : Int32)))), (11, .inl ((0 : Int32)))]) ok dX9_slotOf_47 (by decide) rfl ?_
  refine tj_sub (lv' := [(0, .inr (.inr (a0))), (1, .inr (.inl (a1))), (3, .inr (.inl (a3))), (5, .inr (.inl (a5))), (7, .inl (x2 - (1 : Int32))), (10, .inl ((((us_j ((((a1 * (31 : Int64)) + a3) * (-7046029254386353131 : Int64)) + (a5 * (-4417276706812531889 : Int64))) (32 : Int32)) ^^^ (us_j ((((a1 * (31 : Int64)) + a3) * (-7046029254386353131 : Int64)) + (a5 * (-4417276706812531889 : Int64))) (15 : Int32))).toInt32) &&& (x2 - (1 : Int32)))), (11, .inl ((0 : Int32)))]) [0, 1, 2, 3, 4, 6, 7] rfl ?_
  exact J.2 X g K ok nmx lev hK en
def f_X9_slotOf (a0 : Nat) (a1 : Int64) (a3 : Int64) (a5 : Int64) (h : AH) : Option (Int32 × AH) := b_X9_slotOf_0  a0 a1 a3 a5 h
theorem c_X9_slotOf {a0 : Nat} {a1 : Int64} {a3 : Int64} {a5 : Int64} {h hE : AH} {v : Int32} (hf : f_X9_slotOf a0 a1 a3 a5 h = some (v, hE)) : ∀ g : GT, CM g (2) yX9_slotOf cX9_slotOf 12 (some .int) h [.inr (.inr (a0)), .inr (.inl (a1)), .inr (.inl (a3)), .inr (.inl (a5))] hE (some (.inl (v))) :=
  CM.ofJ (by decide) (by show _ ≤ 12; exact Nat.le_of_ble_eq_true rfl) (q_X9_slotOf_0 hf)
/-! ===== LitmusHouse$States.grow()V ===== -/
def b_X9_grow_141  (h : AH) : Option (AH) :=
  some h
set_option maxHeartbeats 4000000 in
set_option maxRecDepth 100000 in
theorem q_X9_grow_141 {h hE : AH} (hf : b_X9_grow_141  h = some hE) : JD cX9_grow 7 RX9 "grow" none (3) 141 [] [] h hE none := by
  unfold b_X9_grow_141 at hf
  have hh := Option.some.inj hf
  subst hh
  have mE : hp_n h ≤ hp_n h ∧ hp_s h ≤ hp_s h := ⟨Nat.le_refl _, Nat.le_refl _⟩
  refine ⟨by omega, fun X g K ok nmx lev hK en => ?_⟩
  exact tj_return ok en dX9_grow_141
def b_X9_grow_135 (r73 : Nat → Nat → Nat → Nat → Nat → Int32 → AH → Option (AH)) (a0 : Nat) (a1 : Nat) (a2 : Nat) (a3 : Nat) (a4 : Nat) (a5 : Int32) (h : AH) : Option (AH) :=
  r73 a0 a1 a2 a3 a4 (a5 + (1 : Int32)) h
set_option maxHeartbeats 4000000 in
set_option maxRecDepth 100000 in
theorem q_X9_grow_135 {hE : AH} {r73 : Nat → Nat → Nat → Nat → Nat → Int32 → AH → Option (AH)} (hr73 : ∀ (b0 : Nat) (b1 : Nat) (b2 : Nat) (b3 : Nat) (b4 : Nat) (b5 : Int32) (h : AH), r73 b0 b1 b2 b3 b4 b5 h = some hE → JD cX9_grow 7 RX9 "grow" none (3) 73 [(0, .inr (.inr (b0))), (1, .inr (.inr (b1))), (2, .inr (.inr (b2))), (3, .inr (.inr (b3))), (4, .inr (.inr (b4))), (5, .inl (b5))] [] h hE none) {a0 : Nat} {a1 : Nat} {a2 : Nat} {a3 : Nat} {a4 : Nat} {a5 : Int32} {h : AH} (hf : b_X9_grow_135 r73 a0 a1 a2 a3 a4 a5 h = some hE) : JD cX9_grow 7 RX9 "grow" none (3) 135 [(0, .inr (.inr (a0))), (1, .inr (.inr (a1))), (2, .inr (.inr (a2))), (3, .inr (.inr (a3))), (4, .inr (.inr (a4))), (5, .inl (a5))] [] h hE none := by
  unfold b_X9_grow_135 at hf
  have J := hr73 _ _ _ _ _ _ _ hf
  have mE := J.1
  refine ⟨by omega, fun X g K ok nmx lev hK en => ?_⟩
  refine tj_iinc (lv' := [(0, .inr (.inr (a0))), (1, .inr (.inr (a1))), (2, .inr (.inr (a2))), (3, .inr (.inr (a3))), (4, .inr (.inr (a4))), (5, .inl (a5 + (1 : Int32)))]) ok 5 dX9_grow_135 rfl (rfl) (by decide) rfl ?_
  refine tj_goto (tgt := 73) ok dX9_grow_138 (by decide) ?_
  exact J.2 X g K ok nmx lev hK en
def b_X9_grow_117 (r73 : Nat → Nat → Nat → Nat → Nat → Int32 → AH → Option (AH)) (a0 : Nat) (a1 : Nat) (a2 : Nat) (a3 : Nat) (a4 : Nat) (a5 : Int32) (a6 : Int32) (h : AH) : Option (AH) :=
  (l_j h a1 a5).bind fun x1 => (l_j h a2 a5).bind fun x2 => (l_j h a3 a5).bind fun x3 => (ok_v h a0 9).bind fun x4 => (f_X9_put a0 a6 x1 x2 x3 h).bind fun h5 => b_X9_grow_135 r73 a0 a1 a2 a3 a4 a5 h5
set_option maxHeartbeats 4000000 in
set_option maxRecDepth 100000 in
theorem q_X9_grow_117 {hE : AH} {r73 : Nat → Nat → Nat → Nat → Nat → Int32 → AH → Option (AH)} (hr73 : ∀ (b0 : Nat) (b1 : Nat) (b2 : Nat) (b3 : Nat) (b4 : Nat) (b5 : Int32) (h : AH), r73 b0 b1 b2 b3 b4 b5 h = some hE → JD cX9_grow 7 RX9 "grow" none (3) 73 [(0, .inr (.inr (b0))), (1, .inr (.inr (b1))), (2, .inr (.inr (b2))), (3, .inr (.inr (b3))), (4, .inr (.inr (b4))), (5, .inl (b5))] [] h hE none) {a0 : Nat} {a1 : Nat} {a2 : Nat} {a3 : Nat} {a4 : Nat} {a5 : Int32} {a6 : Int32} {h : AH} (hf : b_X9_grow_117 r73 a0 a1 a2 a3 a4 a5 a6 h = some hE) : JD cX9_grow 7 RX9 "grow" none (3) 117 [(0, .inr (.inr (a0))), (1, .inr (.inr (a1))), (2, .inr (.inr (a2))), (3, .inr (.inr (a3))), (4, .inr (.inr (a4))), (5, .inl (a5)), (6, .inl (a6))] [] h hE none := by
  unfold b_X9_grow_117 at hf
  obtain ⟨x1, e1, hf⟩ := bnd hf
  obtain ⟨x2, e2, hf⟩ := bnd hf
  obtain ⟨x3, e3, hf⟩ := bnd hf
  obtain ⟨x4, e4, hf⟩ := bnd hf
  obtain ⟨h5, e5, hf⟩ := bnd hf
  have k5 := c_X9_put e5
  have m5 := (k5 default_g).1
  have J := q_X9_grow_135 hr73 hf
  have mE := J.1
  refine ⟨by omega, fun X g K ok nmx lev hK en => ?_⟩
  refine tj_aload_n ok 0 dX9_grow_117 rfl rfl ?_
  refine tj_iload ok 6 dX9_grow_118 rfl ?_
  refine tj_aload_n ok 1 dX9_grow_120 rfl rfl ?_
  refine tj_iload ok 5 dX9_grow_121 rfl ?_
  refine tj_laload ok dX9_grow_123 e1 ?_
  refine tj_aload_n ok 2 dX9_grow_124 rfl rfl ?_
  refine tj_iload ok 5 dX9_grow_125 rfl ?_
  refine tj_laload ok dX9_grow_127 e2 ?_
  refine tj_aload_n ok 3 dX9_grow_128 rfl rfl ?_
  refine tj_iload ok 5 dX9_grow_129 rfl ?_
  refine tj_laload ok dX9_grow_131 e3 ?_
  refine tj_callV (rest := ([] : List TV).map (vl g)) (as := [.inl (a6), .inr (.inl (x1)), .inr (.inl (x2)), .inr (.inl (x3))]) ok lev (by omega) fcX9.1 (by decide) rfl (of_if e4).1 (k5 g) (CaX.of en (by omega)) kn_X9_put wm_435 wm_436 wm_437 (rs_ok (Nat.le_of_ble_eq_true rfl)) rfl rfl dX9_grow_132 ?_
  refine tj_sub (lv' := [(0, .inr (.inr (a0))), (1, .inr (.inr (a1))), (2, .inr (.inr (a2))), (3, .inr (.inr (a3))), (4, .inr (.inr (a4))), (5, .inl (a5))]) [0, 1, 2, 3, 4, 5] rfl ?_
  exact J.2 X g K ok nmx lev hK en
def b_X9_grow_93 (r73 : Nat → Nat → Nat → Nat → Nat → Int32 → AH → Option (AH)) (a0 : Nat) (a1 : Nat) (a2 : Nat) (a3 : Nat) (a4 : Nat) (a5 : Int32) (h : AH) : Option (AH) :=
  (l_j h a1 a5).bind fun x1 => (l_j h a2 a5).bind fun x2 => (l_j h a3 a5).bind fun x3 => (ok_v h a0 9).bind fun x4 => (f_X9_slotOf a0 x1 x2 x3 h).bind fun q5 => if q5.1 = (-1 : Int32) then b_X9_grow_135 r73 a0 a1 a2 a3 a4 a5 q5.2 else b_X9_grow_117 r73 a0 a1 a2 a3 a4 a5 q5.1 q5.2
set_option maxHeartbeats 4000000 in
set_option maxRecDepth 100000 in
theorem q_X9_grow_93 {hE : AH} {r73 : Nat → Nat → Nat → Nat → Nat → Int32 → AH → Option (AH)} (hr73 : ∀ (b0 : Nat) (b1 : Nat) (b2 : Nat) (b3 : Nat) (b4 : Nat) (b5 : Int32) (h : AH), r73 b0 b1 b2 b3 b4 b5 h = some hE → JD cX9_grow 7 RX9 "grow" none (3) 73 [(0, .inr (.inr (b0))), (1, .inr (.inr (b1))), (2, .inr (.inr (b2))), (3, .inr (.inr (b3))), (4, .inr (.inr (b4))), (5, .inl (b5))] [] h hE none) {a0 : Nat} {a1 : Nat} {a2 : Nat} {a3 : Nat} {a4 : Nat} {a5 : Int32} {h : AH} (hf : b_X9_grow_93 r73 a0 a1 a2 a3 a4 a5 h = some hE) : JD cX9_grow 7 RX9 "grow" none (3) 93 [(0, .inr (.inr (a0))), (1, .inr (.inr (a1))), (2, .inr (.inr (a2))), (3, .inr (.inr (a3))), (4, .inr (.inr (a4))), (5, .inl (a5))] [] h hE none := by
  unfold b_X9_grow_93 at hf
  obtain ⟨x1, e1, hf⟩ := bnd hf
  obtain ⟨x2, e2, hf⟩ := bnd hf
  obtain ⟨x3, e3, hf⟩ := bnd hf
  obtain ⟨x4, e4, hf⟩ := bnd hf
  obtain ⟨⟨x5, h5⟩, e5, hf⟩ := bnd hf
  try dsimp only at hf
  have k5 := c_X9_slotOf e5
  have m5 := (k5 default_g).1
  have mE : hp_n h5 ≤ hp_n hE ∧ hp_s h5 ≤ hp_s hE := by
    by_cases hc : x5 = (-1 : Int32)
    · rw [if_pos hc] at hf; exact (q_X9_grow_135 hr73 hf).1
    · rw [if_neg hc] at hf; exact (q_X9_grow_117 hr73 hf).1
  refine ⟨by omega, fun X g K ok nmx lev hK en => ?_⟩
  refine tj_aload_n ok 0 dX9_grow_93 rfl rfl ?_
  refine tj_aload_n ok 1 dX9_grow_94 rfl rfl ?_
  refine tj_iload ok 5 dX9_grow_95 rfl ?_
  refine tj_laload ok dX9_grow_97 e1 ?_
  refine tj_aload_n ok 2 dX9_grow_98 rfl rfl ?_
  refine tj_iload ok 5 dX9_grow_99 rfl ?_
  refine tj_laload ok dX9_grow_101 e2 ?_
  refine tj_aload_n ok 3 dX9_grow_102 rfl rfl ?_
  refine tj_iload ok 5 dX9_grow_103 rfl ?_
  refine tj_laload ok dX9_grow_105 e3 ?_
  refine tj_callV (rest := ([] : List TV).map (vl g)) (as := [.inr (.inl (x1)), .inr (.inl (x2)), .inr (.inl (x3))]) ok lev (by omega) fcX9.1 (by decide) rfl (of_if e4).1 (k5 g) (CaX.of en (by omega)) kn_X9_slotOf wm_438 wm_439 wm_440 (rs_ok (Nat.le_of_ble_eq_true rfl)) rfl rfl dX9_grow_106 ?_
  refine tj_istore (lv' := [(0, .inr (.inr (a0))), (1, .inr (.inr (a1))), (2, .inr (.inr (a2))), (3, .inr (.inr (a3))), (4, .inr (.inr (a4))), (5, .inl (a5)), (6, .inl (x5))]) ok dX9_grow_109 (by decide) rfl ?_
  refine tj_iload ok 6 dX9_grow_111 rfl ?_
  refine tj_iconst (v := -1) ok dX9_grow_113 (by decide) ?_
  refine tj_icmp_eq (tgt := 135) ok dX9_grow_114 (by decide) (fun hc => ?_) (fun hc => ?_)
  · rw [if_pos hc] at hf
    refine tj_sub (lv' := [(0, .inr (.inr (a0))), (1, .inr (.inr (a1))), (2, .inr (.inr (a2))), (3, .inr (.inr (a3))), (4, .inr (.inr (a4))), (5, .inl (a5))]) [0, 1, 2, 3, 4, 5] rfl ?_
    exact (q_X9_grow_135 hr73 hf).2 X g K ok nmx lev hK en
  · rw [if_neg hc] at hf
    exact (q_X9_grow_117 hr73 hf).2 X g K ok nmx lev hK en
def b_X9_grow_81 (r73 : Nat → Nat → Nat → Nat → Nat → Int32 → AH → Option (AH)) (a0 : Nat) (a1 : Nat) (a2 : Nat) (a3 : Nat) (a4 : Nat) (a5 : Int32) (h : AH) : Option (AH) :=
  (l_i h a4 a5).bind fun x1 => (g_i h a0 9 4).bind fun x2 => if x1 = x2 then b_X9_grow_93 r73 a0 a1 a2 a3 a4 a5 h else b_X9_grow_135 r73 a0 a1 a2 a3 a4 a5 h
set_option maxHeartbeats 4000000 in
set_option maxRecDepth 100000 in
theorem q_X9_grow_81 {hE : AH} {r73 : Nat → Nat → Nat → Nat → Nat → Int32 → AH → Option (AH)} (hr73 : ∀ (b0 : Nat) (b1 : Nat) (b2 : Nat) (b3 : Nat) (b4 : Nat) (b5 : Int32) (h : AH), r73 b0 b1 b2 b3 b4 b5 h = some hE → JD cX9_grow 7 RX9 "grow" none (3) 73 [(0, .inr (.inr (b0))), (1, .inr (.inr (b1))), (2, .inr (.inr (b2))), (3, .inr (.inr (b3))), (4, .inr (.inr (b4))), (5, .inl (b5))] [] h hE none) {a0 : Nat} {a1 : Nat} {a2 : Nat} {a3 : Nat} {a4 : Nat} {a5 : Int32} {h : AH} (hf : b_X9_grow_81 r73 a0 a1 a2 a3 a4 a5 h = some hE) : JD cX9_grow 7 RX9 "grow" none (3) 81 [(0, .inr (.inr (a0))), (1, .inr (.inr (a1))), (2, .inr (.inr (a2))), (3, .inr (.inr (a3))), (4, .inr (.inr (a4))), (5, .inl (a5))] [] h hE none := by
  unfold b_X9_grow_81 at hf
  obtain ⟨x1, e1, hf⟩ := bnd hf
  obtain ⟨x2, e2, hf⟩ := bnd hf
  have mE : hp_n h ≤ hp_n hE ∧ hp_s h ≤ hp_s hE := by
    by_cases hc : x1 = x2
    · rw [if_pos hc] at hf; exact (q_X9_grow_93 hr73 hf).1
    · rw [if_neg hc] at hf; exact (q_X9_grow_135 hr73 hf).1
  refine ⟨by omega, fun X g K ok nmx lev hK en => ?_⟩
  refine tj_aload ok 4 dX9_grow_81 rfl ?_
  refine tj_iload ok 5 dX9_grow_83 rfl ?_
  refine tj_iaload ok dX9_grow_85 e1 ?_
  refine tj_aload_n ok 0 dX9_grow_86 rfl rfl ?_
  refine tj_getI (k := 4) ok fcX9 (by decide) wm_169 rfl (Or.inl rfl) dX9_grow_87 e2 ?_
  refine tj_icmp_ne (tgt := 135) ok dX9_grow_90 (by decide) (fun hc => ?_) (fun hc => ?_)
  · rw [if_neg hc] at hf
    exact (q_X9_grow_135 hr73 hf).2 X g K ok nmx lev hK en
  · rw [if_pos hc] at hf
    exact (q_X9_grow_93 hr73 hf).2 X g K ok nmx lev hK en
def b_X9_grow_73 (r73 : Nat → Nat → Nat → Nat → Nat → Int32 → AH → Option (AH)) (a0 : Nat) (a1 : Nat) (a2 : Nat) (a3 : Nat) (a4 : Nat) (a5 : Int32) (h : AH) : Option (AH) :=
  (al_n h a4).bind fun x1 => if x1 ≤ a5 then b_X9_grow_141 h else b_X9_grow_81 r73 a0 a1 a2 a3 a4 a5 h
set_option maxHeartbeats 4000000 in
set_option maxRecDepth 100000 in
theorem q_X9_grow_73 {hE : AH} {r73 : Nat → Nat → Nat → Nat → Nat → Int32 → AH → Option (AH)} (hr73 : ∀ (b0 : Nat) (b1 : Nat) (b2 : Nat) (b3 : Nat) (b4 : Nat) (b5 : Int32) (h : AH), r73 b0 b1 b2 b3 b4 b5 h = some hE → JD cX9_grow 7 RX9 "grow" none (3) 73 [(0, .inr (.inr (b0))), (1, .inr (.inr (b1))), (2, .inr (.inr (b2))), (3, .inr (.inr (b3))), (4, .inr (.inr (b4))), (5, .inl (b5))] [] h hE none) {a0 : Nat} {a1 : Nat} {a2 : Nat} {a3 : Nat} {a4 : Nat} {a5 : Int32} {h : AH} (hf : b_X9_grow_73 r73 a0 a1 a2 a3 a4 a5 h = some hE) : JD cX9_grow 7 RX9 "grow" none (3) 73 [(0, .inr (.inr (a0))), (1, .inr (.inr (a1))), (2, .inr (.inr (a2))), (3, .inr (.inr (a3))), (4, .inr (.inr (a4))), (5, .inl (a5))] [] h hE none := by
  unfold b_X9_grow_73 at hf
  obtain ⟨x1, e1, hf⟩ := bnd hf
  have mE : hp_n h ≤ hp_n hE ∧ hp_s h ≤ hp_s hE := by
    by_cases hc : x1 ≤ a5
    · rw [if_pos hc] at hf; exact (q_X9_grow_141 hf).1
    · rw [if_neg hc] at hf; exact (q_X9_grow_81 hr73 hf).1
  refine ⟨by omega, fun X g K ok nmx lev hK en => ?_⟩
  refine tj_iload ok 5 dX9_grow_73 rfl ?_
  refine tj_aload ok 4 dX9_grow_75 rfl ?_
  refine tj_alen ok dX9_grow_77 e1 ?_
  refine tj_icmp_ge (tgt := 141) ok dX9_grow_78 (by decide) (fun hc => ?_) (fun hc => ?_)
  · rw [if_pos hc] at hf
    refine tj_sub (lv' := []) [] rfl ?_
    exact (q_X9_grow_141 hf).2 X g K ok nmx lev hK en
  · rw [if_neg hc] at hf
    exact (q_X9_grow_81 hr73 hf).2 X g K ok nmx lev hK en
def l_X9_grow_73 : Nat → Nat → Nat → Nat → Nat → Nat → Int32 → AH → Option (AH)
  | 0 => fun _ _ _ _ _ _ _ => none
  | n + 1 => fun a0 a1 a2 a3 a4 a5 h => b_X9_grow_73 (l_X9_grow_73 n) a0 a1 a2 a3 a4 a5 h
theorem ql_X9_grow_73 {n : Nat} {a0 : Nat} {a1 : Nat} {a2 : Nat} {a3 : Nat} {a4 : Nat} {a5 : Int32} {h hE : AH} (hf : l_X9_grow_73 n a0 a1 a2 a3 a4 a5 h = some hE) : JD cX9_grow 7 RX9 "grow" none (3) 73 [(0, .inr (.inr (a0))), (1, .inr (.inr (a1))), (2, .inr (.inr (a2))), (3, .inr (.inr (a3))), (4, .inr (.inr (a4))), (5, .inl (a5))] [] h hE none := by
  induction n generalizing a0 a1 a2 a3 a4 a5 h with
  | zero => cases hf
  | succ n ih => exact q_X9_grow_73 (fun _ _ _ _ _ _ _ hf => ih hf) hf
def b_X9_grow_0 (a0 : Nat) (h : AH) : Option (AH) :=
  (g_r h a0 9 0).bind fun x1 => (g_r h a0 9 1).bind fun x2 => (g_r h a0 9 2).bind fun x3 => (g_r h a0 9 3).bind fun x4 => (al_n h x4).bind fun x5 => (n_a h 101 ((2 : Int32) * x5)).bind fun h6 => (p_r h6 a0 9 0 (hp_n h)).bind fun h7 => (al_n h7 x4).bind fun x8 => (n_a h7 101 ((2 : Int32) * x8)).bind fun h9 => (p_r h9 a0 9 1 (hp_n h7)).bind fun h10 => (al_n h10 x4).bind fun x11 => (n_a h10 101 ((2 : Int32) * x11)).bind fun h12 => (p_r h12 a0 9 2 (hp_n h10)).bind fun h13 => (al_n h13 x4).bind fun x14 => (n_a h13 100 ((2 : Int32) * x14)).bind fun h15 => (p_r h15 a0 9 3 (hp_n h13)).bind fun h16 => (p_i h16 a0 9 5 (0 : Int32)).bind fun h17 => l_X9_grow_73 fu_ a0 x1 x2 x3 x4 (0 : Int32) h17
set_option maxHeartbeats 4000000 in
set_option maxRecDepth 100000 in
theorem q_X9_grow_0 {a0 : Nat} {h hE : AH} (hf : b_X9_grow_0 a0 h = some hE) : JD cX9_grow 7 RX9 "grow" none (3) 0 [(0, .inr (.inr (a0)))] [] h hE none := by
  unfold b_X9_grow_0 at hf
  obtain ⟨x1, e1, hf⟩ := bnd hf
  obtain ⟨x2, e2, hf⟩ := bnd hf
  obtain ⟨x3, e3, hf⟩ := bnd hf
  obtain ⟨x4, e4, hf⟩ := bnd hf
  obtain ⟨x5, e5, hf⟩ := bnd hf
  obtain ⟨h6, e6, hf⟩ := bnd hf
  have m6 := nn_n e6
  obtain ⟨h7, e7, hf⟩ := bnd hf
  have m7 := nn_pr e7
  obtain ⟨x8, e8, hf⟩ := bnd hf
  obtain ⟨h9, e9, hf⟩ := bnd hf
  have m9 := nn_n e9
  obtain ⟨h10, e10, hf⟩ := bnd hf
  have m10 := nn_pr e10
  obtain ⟨x11, e11, hf⟩ := bnd hf
  obtain ⟨h12, e12, hf⟩ := bnd hf
  have m12 := nn_n e12
  obtain ⟨h13, e13, hf⟩ := bnd hf
  have m13 := nn_pr e13
  obtain ⟨x14, e14, hf⟩ := bnd hf
  obtain ⟨h15, e15, hf⟩ := bnd hf
  have m15 := nn_n e15
  obtain ⟨h16, e16, hf⟩ := bnd hf
  have m16 := nn_pr e16
  obtain ⟨h17, e17, hf⟩ := bnd hf
  have m17 := nn_pi e17
  have J := ql_X9_grow_73 hf
  have mE := J.1
  refine ⟨by omega, fun X g K ok nmx lev hK en => ?_⟩
  refine tj_aload_n ok 0 dX9_grow_0 rfl rfl ?_
  refine tj_getR (k := 0) ok fcX9 (by decide) wm_165 rfl (Or.inr ⟨_, rfl⟩) dX9_grow_1 e1 ?_
  refine tj_astore_n (lv' := [(0, .inr (.inr (a0))), (1, .inr (.inr (x1)))]) ok dX9_grow_4 rfl (by decide) rfl ?_
  refine tj_aload_n ok 0 dX9_grow_5 rfl rfl ?_
  refine tj_getR (k := 1) ok fcX9 (by decide) wm_166 rfl (Or.inr ⟨_, rfl⟩) dX9_grow_6 e2 ?_
  refine tj_astore_n (lv' := [(0, .inr (.inr (a0))), (1, .inr (.inr (x1))), (2, .inr (.inr (x2)))]) ok dX9_grow_9 rfl (by decide) rfl ?_
  refine tj_aload_n ok 0 dX9_grow_10 rfl rfl ?_
  refine tj_getR (k := 2) ok fcX9 (by decide) wm_167 rfl (Or.inr ⟨_, rfl⟩) dX9_grow_11 e3 ?_
  refine tj_astore_n (lv' := [(0, .inr (.inr (a0))), (1, .inr (.inr (x1))), (2, .inr (.inr (x2))), (3, .inr (.inr (x3)))]) ok dX9_grow_14 rfl (by decide) rfl ?_
  refine tj_aload_n ok 0 dX9_grow_15 rfl rfl ?_
  refine tj_getR (k := 3) ok fcX9 (by decide) wm_168 rfl (Or.inr ⟨_, rfl⟩) dX9_grow_16 e4 ?_
  refine tj_astore (lv' := [(0, .inr (.inr (a0))), (1, .inr (.inr (x1))), (2, .inr (.inr (x2))), (3, .inr (.inr (x3))), (4, .inr (.inr (x4)))]) ok dX9_grow_19 (by decide) rfl ?_
  refine tj_aload_n ok 0 dX9_grow_21 rfl rfl ?_
  refine tj_iconst (v := 2) ok dX9_grow_22 (by decide) ?_
  refine tj_aload ok 4 dX9_grow_23 rfl ?_
  refine tj_alen ok dX9_grow_25 e5 ?_
  refine tj_imul ok dX9_grow_26 ?_
  refine tj_newJ ok wm_164 dX9_grow_27 e6 (CaX.of en (by omega)) ?_
  refine tj_putR (k := 0) ok fcX9 (by decide) wm_165 rfl (Or.inl rfl) (Or.inr ⟨_, rfl⟩) dX9_grow_29 e7 ?_
  refine tj_aload_n ok 0 dX9_grow_32 rfl rfl ?_
  refine tj_iconst (v := 2) ok dX9_grow_33 (by decide) ?_
  refine tj_aload ok 4 dX9_grow_34 rfl ?_
  refine tj_alen ok dX9_grow_36 e8 ?_
  refine tj_imul ok dX9_grow_37 ?_
  refine tj_newJ ok wm_164 dX9_grow_38 e9 (CaX.of en (by omega)) ?_
  refine tj_putR (k := 1) ok fcX9 (by decide) wm_166 rfl (Or.inl rfl) (Or.inr ⟨_, rfl⟩) dX9_grow_40 e10 ?_
  refine tj_aload_n ok 0 dX9_grow_43 rfl rfl ?_
  refine tj_iconst (v := 2) ok dX9_grow_44 (by decide) ?_
  refine tj_aload ok 4 dX9_grow_45 rfl ?_
  refine tj_alen ok dX9_grow_47 e11 ?_
  refine tj_imul ok dX9_grow_48 ?_
  refine tj_newJ ok wm_164 dX9_grow_49 e12 (CaX.of en (by omega)) ?_
  refine tj_putR (k := 2) ok fcX9 (by decide) wm_167 rfl (Or.inl rfl) (Or.inr ⟨_, rfl⟩) dX9_grow_51 e13 ?_
  refine tj_aload_n ok 0 dX9_grow_54 rfl rfl ?_
  refine tj_iconst (v := 2) ok dX9_grow_55 (by decide) ?_
  refine tj_aload ok 4 dX9_grow_56 rfl ?_
  refine tj_alen ok dX9_grow_58 e14 ?_
  refine tj_imul ok dX9_grow_59 ?_
  refine tj_newI ok wm_39 dX9_grow_60 e15 (CaX.of en (by omega)) ?_
  refine tj_putR (k := 3) ok fcX9 (by decide) wm_168 rfl (Or.inl rfl) (Or.inr ⟨_, rfl⟩) dX9_grow_62 e16 ?_
  refine tj_aload_n ok 0 dX9_grow_65 rfl rfl ?_
  refine tj_iconst (v := 0) ok dX9_grow_66 (by decide) ?_
  refine tj_putI (k := 5) ok fcX9 (by decide) wm_170 rfl (Or.inl rfl) rfl dX9_grow_67 e17 ?_
  refine tj_iconst (v := 0) ok dX9_grow_70 (by decide) ?_
  refine tj_istore (lv' := [(0, .inr (.inr (a0))), (1, .inr (.inr (x1))), (2, .inr (.inr (x2))), (3, .inr (.inr (x3))), (4, .inr (.inr (x4))), (5, .inl ((0 : Int32)))]) ok dX9_grow_71 (by decide) rfl ?_
  exact J.2 X g K ok nmx lev hK en
def f_X9_grow (a0 : Nat) (h : AH) : Option (AH) := b_X9_grow_0  a0 h
theorem c_X9_grow {a0 : Nat} {h hE : AH} (hf : f_X9_grow a0 h = some hE) : ∀ g : GT, CM g (3) yX9_grow cX9_grow 7 none h [.inr (.inr (a0))] hE none :=
  CM.ofJ (by decide) (by show _ ≤ 7; exact Nat.le_of_ble_eq_true rfl) (q_X9_grow_0 hf)
/-! ===== LitmusHouse$States.isNew(JJJ)Z ===== -/
def b_X9_isNew_93  (h : AH) : Option (Int32 × AH) :=
  ok_z (1 : Int32) h
set_option maxHeartbeats 4000000 in
set_option maxRecDepth 100000 in
theorem q_X9_isNew_93 {h hE : AH} {v : Int32} (hf : b_X9_isNew_93  h = some (v, hE)) : JD cX9_isNew 8 RX9 "isNew" (some .boolean) (4) 93 [] [] h hE (some (.inl (v))) := by
  unfold b_X9_isNew_93 at hf
  have mE : hp_n h ≤ hp_n hE ∧ hp_s h ≤ hp_s hE := by obtain ⟨-, q⟩ := of_if hf; cases q; exact ⟨Nat.le_refl _, Nat.le_refl _⟩
  refine ⟨by omega, fun X g K ok nmx lev hK en => ?_⟩
  refine tj_iconst (v := 1) ok dX9_isNew_93 (by decide) ?_
  exact tj_zreturn ok hf en dX9_isNew_94
def b_X9_isNew_83 (a0 : Nat) (a1 : Int64) (a3 : Int64) (a5 : Int64) (a7 : Int32) (h : AH) : Option (Int32 × AH) :=
  (ok_v h a0 9).bind fun x1 => (f_X9_put a0 a7 a1 a3 a5 h).bind fun h2 => b_X9_isNew_93 h2
set_option maxHeartbeats 4000000 in
set_option maxRecDepth 100000 in
theorem q_X9_isNew_83 {a0 : Nat} {a1 : Int64} {a3 : Int64} {a5 : Int64} {a7 : Int32} {h hE : AH} {v : Int32} (hf : b_X9_isNew_83 a0 a1 a3 a5 a7 h = some (v, hE)) : JD cX9_isNew 8 RX9 "isNew" (some .boolean) (4) 83 [(0, .inr (.inr (a0))), (1, .inr (.inl (a1))), (3, .inr (.inl (a3))), (5, .inr (.inl (a5))), (7, .inl (a7))] [] h hE (some (.inl (v))) := by
  unfold b_X9_isNew_83 at hf
  obtain ⟨x1, e1, hf⟩ := bnd hf
  obtain ⟨h2, e2, hf⟩ := bnd hf
  have k2 := c_X9_put e2
  have m2 := (k2 default_g).1
  have J := q_X9_isNew_93 hf
  have mE := J.1
  refine ⟨by omega, fun X g K ok nmx lev hK en => ?_⟩
  refine tj_aload_n ok 0 dX9_isNew_83 rfl rfl ?_
  refine tj_iload ok 4 dX9_isNew_84 rfl ?_
  refine tj_lload_n ok 1 dX9_isNew_86 rfl rfl ?_
  refine tj_lload_n ok 2 dX9_isNew_87 rfl rfl ?_
  refine tj_lload ok 3 dX9_isNew_88 rfl ?_
  refine tj_callV (rest := ([] : List TV).map (vl g)) (as := [.inl (a7), .inr (.inl (a1)), .inr (.inl (a3)), .inr (.inl (a5))]) ok lev (by omega) fcX9.1 (by decide) rfl (of_if e1).1 (k2 g) (CaX.of en (by omega)) kn_X9_put wm_435 wm_436 wm_437 (rs_ok (Nat.le_of_ble_eq_true rfl)) rfl rfl dX9_isNew_90 ?_
  refine tj_sub (lv' := []) [] rfl ?_
  exact J.2 X g K ok nmx lev hK en
def b_X9_isNew_62 (a0 : Nat) (a1 : Int64) (a3 : Int64) (a5 : Int64) (a7 : Int32) (h : AH) : Option (Int32 × AH) :=
  (g_i h a0 9 5).bind fun x1 => (g_r h a0 9 3).bind fun x2 => (al_n h x2).bind fun x3 => (g_r h a0 9 3).bind fun x4 => (al_n h x4).bind fun x5 => (dv_i x5 (8 : Int32)).bind fun x6 => if (x3 - x6) ≤ x1 then b_X9_isNew_93 h else b_X9_isNew_83 a0 a1 a3 a5 a7 h
set_option maxHeartbeats 4000000 in
set_option maxRecDepth 100000 in
theorem q_X9_isNew_62 {a0 : Nat} {a1 : Int64} {a3 : Int64} {a5 : Int64} {a7 : Int32} {h hE : AH} {v : Int32} (hf : b_X9_isNew_62 a0 a1 a3 a5 a7 h = some (v, hE)) : JD cX9_isNew 8 RX9 "isNew" (some .boolean) (4) 62 [(0, .inr (.inr (a0))), (1, .inr (.inl (a1))), (3, .inr (.inl (a3))), (5, .inr (.inl (a5))), (7, .inl (a7))] [] h hE (some (.inl (v))) := by
  unfold b_X9_isNew_62 at hf
  obtain ⟨x1, e1, hf⟩ := bnd hf
  obtain ⟨x2, e2, hf⟩ := bnd hf
  obtain ⟨x3, e3, hf⟩ := bnd hf
  obtain ⟨x4, e4, hf⟩ := bnd hf
  obtain ⟨x5, e5, hf⟩ := bnd hf
  obtain ⟨x6, e6, hf⟩ := bnd hf
  have mE : hp_n h ≤ hp_n hE ∧ hp_s h ≤ hp_s hE := by
    by_cases hc : (x3 - x6) ≤ x1
    · rw [if_pos hc] at hf; exact (q_X9_isNew_93 hf).1
    · rw [if_neg hc] at hf; exact (q_X9_isNew_83 hf).1
  refine ⟨by omega, fun X g K ok nmx lev hK en => ?_⟩
  refine tj_aload_n ok 0 dX9_isNew_62 rfl rfl ?_
  refine tj_getI (k := 5) ok fcX9 (by decide) wm_170 rfl (Or.inl rfl) dX9_isNew_63 e1 ?_
  refine tj_aload_n ok 0 dX9_isNew_66 rfl rfl ?_
  refine tj_getR (k := 3) ok fcX9 (by decide) wm_168 rfl (Or.inr ⟨_, rfl⟩) dX9_isNew_67 e2 ?_
  refine tj_alen ok dX9_isNew_70 e3 ?_
  refine tj_aload_n ok 0 dX9_isNew_71 rfl rfl ?_
  refine tj_getR (k := 3) ok fcX9 (by decide) wm_168 rfl (Or.inr ⟨_, rfl⟩) dX9_isNew_72 e4 ?_
  refine tj_alen ok dX9_isNew_75 e5 ?_
  refine tj_bipush (v := 8) ok dX9_isNew_76 (by decide) ?_
  refine tj_idiv ok dX9_isNew_78 e6 ?_
  refine tj_isub ok dX9_isNew_79 ?_
  refine tj_icmp_ge (tgt := 93) ok dX9_isNew_80 (by decide) (fun hc => ?_) (fun hc => ?_)
  · rw [if_pos hc] at hf
    refine tj_sub (lv' := []) [] rfl ?_
    exact (q_X9_isNew_93 hf).2 X g K ok nmx lev hK en
  · rw [if_neg hc] at hf
    exact (q_X9_isNew_83 hf).2 X g K ok nmx lev hK en
def b_X9_isNew_60  (h : AH) : Option (Int32 × AH) :=
  ok_z (0 : Int32) h
set_option maxHeartbeats 4000000 in
set_option maxRecDepth 100000 in
theorem q_X9_isNew_60 {h hE : AH} {v : Int32} (hf : b_X9_isNew_60  h = some (v, hE)) : JD cX9_isNew 8 RX9 "isNew" (some .boolean) (4) 60 [] [] h hE (some (.inl (v))) := by
  unfold b_X9_isNew_60 at hf
  have mE : hp_n h ≤ hp_n hE ∧ hp_s h ≤ hp_s hE := by obtain ⟨-, q⟩ := of_if hf; cases q; exact ⟨Nat.le_refl _, Nat.le_refl _⟩
  refine ⟨by omega, fun X g K ok nmx lev hK en => ?_⟩
  refine tj_iconst (v := 0) ok dX9_isNew_60 (by decide) ?_
  exact tj_zreturn ok hf en dX9_isNew_61
def b_X9_isNew_46 (a0 : Nat) (a1 : Int64) (a3 : Int64) (a5 : Int64) (a7 : Int32) (h : AH) : Option (Int32 × AH) :=
  (g_r h a0 9 3).bind fun x1 => (l_i h x1 a7).bind fun x2 => (g_i h a0 9 4).bind fun x3 => if x2 = x3 then b_X9_isNew_60 h else b_X9_isNew_62 a0 a1 a3 a5 a7 h
set_option maxHeartbeats 4000000 in
set_option maxRecDepth 100000 in
theorem q_X9_isNew_46 {a0 : Nat} {a1 : Int64} {a3 : Int64} {a5 : Int64} {a7 : Int32} {h hE : AH} {v : Int32} (hf : b_X9_isNew_46 a0 a1 a3 a5 a7 h = some (v, hE)) : JD cX9_isNew 8 RX9 "isNew" (some .boolean) (4) 46 [(0, .inr (.inr (a0))), (1, .inr (.inl (a1))), (3, .inr (.inl (a3))), (5, .inr (.inl (a5))), (7, .inl (a7))] [] h hE (some (.inl (v))) := by
  unfold b_X9_isNew_46 at hf
  obtain ⟨x1, e1, hf⟩ := bnd hf
  obtain ⟨x2, e2, hf⟩ := bnd hf
  obtain ⟨x3, e3, hf⟩ := bnd hf
  have mE : hp_n h ≤ hp_n hE ∧ hp_s h ≤ hp_s hE := by
    by_cases hc : x2 = x3
    · rw [if_pos hc] at hf; exact (q_X9_isNew_60 hf).1
    · rw [if_neg hc] at hf; exact (q_X9_isNew_62 hf).1
  refine ⟨by omega, fun X g K ok nmx lev hK en => ?_⟩
  refine tj_aload_n ok 0 dX9_isNew_46 rfl rfl ?_
  refine tj_getR (k := 3) ok fcX9 (by decide) wm_168 rfl (Or.inr ⟨_, rfl⟩) dX9_isNew_47 e1 ?_
  refine tj_iload ok 4 dX9_isNew_50 rfl ?_
  refine tj_iaload ok dX9_isNew_52 e2 ?_
  refine tj_aload_n ok 0 dX9_isNew_53 rfl rfl ?_
  refine tj_getI (k := 4) ok fcX9 (by decide) wm_169 rfl (Or.inl rfl) dX9_isNew_54 e3 ?_
  refine tj_icmp_ne (tgt := 62) ok dX9_isNew_57 (by decide) (fun hc => ?_) (fun hc => ?_)
  · rw [if_neg hc] at hf
    exact (q_X9_isNew_62 hf).2 X g K ok nmx lev hK en
  · rw [if_pos hc] at hf
    refine tj_sub (lv' := []) [] rfl ?_
    exact (q_X9_isNew_60 hf).2 X g K ok nmx lev hK en
def b_X9_isNew_44  (h : AH) : Option (Int32 × AH) :=
  ok_z (1 : Int32) h
set_option maxHeartbeats 4000000 in
set_option maxRecDepth 100000 in
theorem q_X9_isNew_44 {h hE : AH} {v : Int32} (hf : b_X9_isNew_44  h = some (v, hE)) : JD cX9_isNew 8 RX9 "isNew" (some .boolean) (4) 44 [] [] h hE (some (.inl (v))) := by
  unfold b_X9_isNew_44 at hf
  have mE : hp_n h ≤ hp_n hE ∧ hp_s h ≤ hp_s hE := by obtain ⟨-, q⟩ := of_if hf; cases q; exact ⟨Nat.le_refl _, Nat.le_refl _⟩
  refine ⟨by omega, fun X g K ok nmx lev hK en => ?_⟩
  refine tj_iconst (v := 1) ok dX9_isNew_44 (by decide) ?_
  exact tj_zreturn ok hf en dX9_isNew_45
def b_X9_isNew_28 (a0 : Nat) (a1 : Int64) (a3 : Int64) (a5 : Int64) (h : AH) : Option (Int32 × AH) :=
  (ok_v h a0 9).bind fun x1 => (f_X9_slotOf a0 a1 a3 a5 h).bind fun q2 => if q2.1 = (-1 : Int32) then b_X9_isNew_44 q2.2 else b_X9_isNew_46 a0 a1 a3 a5 q2.1 q2.2
set_option maxHeartbeats 4000000 in
set_option maxRecDepth 100000 in
theorem q_X9_isNew_28 {a0 : Nat} {a1 : Int64} {a3 : Int64} {a5 : Int64} {h hE : AH} {v : Int32} (hf : b_X9_isNew_28 a0 a1 a3 a5 h = some (v, hE)) : JD cX9_isNew 8 RX9 "isNew" (some .boolean) (4) 28 [(0, .inr (.inr (a0))), (1, .inr (.inl (a1))), (3, .inr (.inl (a3))), (5, .inr (.inl (a5)))] [] h hE (some (.inl (v))) := by
  unfold b_X9_isNew_28 at hf
  obtain ⟨x1, e1, hf⟩ := bnd hf
  obtain ⟨⟨x2, h2⟩, e2, hf⟩ := bnd hf
  try dsimp only at hf
  have k2 := c_X9_slotOf e2
  have m2 := (k2 default_g).1
  have mE : hp_n h2 ≤ hp_n hE ∧ hp_s h2 ≤ hp_s hE := by
    by_cases hc : x2 = (-1 : Int32)
    · rw [if_pos hc] at hf; exact (q_X9_isNew_44 hf).1
    · rw [if_neg hc] at hf; exact (q_X9_isNew_46 hf).1
  refine ⟨by omega, fun X g K ok nmx lev hK en => ?_⟩
  refine tj_aload_n ok 0 dX9_isNew_28 rfl rfl ?_
  refine tj_lload_n ok 1 dX9_isNew_29 rfl rfl ?_
  refine tj_lload_n ok 2 dX9_isNew_30 rfl rfl ?_
  refine tj_lload ok 3 dX9_isNew_31 rfl ?_
  refine tj_callV (rest := ([] : List TV).map (vl g)) (as := [.inr (.inl (a1)), .inr (.inl (a3)), .inr (.inl (a5))]) ok lev (by omega) fcX9.1 (by decide) rfl (of_if e1).1 (k2 g) (CaX.of en (by omega)) kn_X9_slotOf wm_438 wm_439 wm_440 (rs_ok (Nat.le_of_ble_eq_true rfl)) rfl rfl dX9_isNew_33 ?_
  refine tj_istore (lv' := [(0, .inr (.inr (a0))), (1, .inr (.inl (a1))), (3, .inr (.inl (a3))), (5, .inr (.inl (a5))), (7, .inl (x2))]) ok dX9_isNew_36 (by decide) rfl ?_
  refine tj_iload ok 4 dX9_isNew_38 rfl ?_
  refine tj_iconst (v := -1) ok dX9_isNew_40 (by decide) ?_
  refine tj_icmp_ne (tgt := 46) ok dX9_isNew_41 (by decide) (fun hc => ?_) (fun hc => ?_)
  · rw [if_neg hc] at hf
    exact (q_X9_isNew_46 hf).2 X g K ok nmx lev hK en
  · rw [if_pos hc] at hf
    refine tj_sub (lv' := []) [] rfl ?_
    exact (q_X9_isNew_44 hf).2 X g K ok nmx lev hK en
def b_X9_isNew_24 (a0 : Nat) (a1 : Int64) (a3 : Int64) (a5 : Int64) (h : AH) : Option (Int32 × AH) :=
  (ok_v h a0 9).bind fun x1 => (f_X9_grow a0 h).bind fun h2 => b_X9_isNew_28 a0 a1 a3 a5 h2
set_option maxHeartbeats 4000000 in
set_option maxRecDepth 100000 in
theorem q_X9_isNew_24 {a0 : Nat} {a1 : Int64} {a3 : Int64} {a5 : Int64} {h hE : AH} {v : Int32} (hf : b_X9_isNew_24 a0 a1 a3 a5 h = some (v, hE)) : JD cX9_isNew 8 RX9 "isNew" (some .boolean) (4) 24 [(0, .inr (.inr (a0))), (1, .inr (.inl (a1))), (3, .inr (.inl (a3))), (5, .inr (.inl (a5)))] [] h hE (some (.inl (v))) := by
  unfold b_X9_isNew_24 at hf
  obtain ⟨x1, e1, hf⟩ := bnd hf
  obtain ⟨h2, e2, hf⟩ := bnd hf
  have k2 := c_X9_grow e2
  have m2 := (k2 default_g).1
  have J := q_X9_isNew_28 hf
  have mE := J.1
  refine ⟨by omega, fun X g K ok nmx lev hK en => ?_⟩
  refine tj_aload_n ok 0 dX9_isNew_24 rfl rfl ?_
  refine tj_callV (rest := ([] : List TV).map (vl g)) (as := []) ok lev (by omega) fcX9.1 (by decide) rfl (of_if e1).1 (k2 g) (CaX.of en (by omega)) kn_X9_grow wm_442 wm_443 wm_444 (rs_ok (Nat.le_of_ble_eq_true rfl)) rfl rfl dX9_isNew_25 ?_
  exact J.2 X g K ok nmx lev hK en
def b_X9_isNew_14 (a0 : Nat) (a1 : Int64) (a3 : Int64) (a5 : Int64) (h : AH) : Option (Int32 × AH) :=
  (g_r h a0 9 3).bind fun x1 => (al_n h x1).bind fun x2 => if (32768 : Int32) ≤ x2 then b_X9_isNew_28 a0 a1 a3 a5 h else b_X9_isNew_24 a0 a1 a3 a5 h
set_option maxHeartbeats 4000000 in
set_option maxRecDepth 100000 in
theorem q_X9_isNew_14 {a0 : Nat} {a1 : Int64} {a3 : Int64} {a5 : Int64} {h hE : AH} {v : Int32} (hf : b_X9_isNew_14 a0 a1 a3 a5 h = some (v, hE)) : JD cX9_isNew 8 RX9 "isNew" (some .boolean) (4) 14 [(0, .inr (.inr (a0))), (1, .inr (.inl (a1))), (3, .inr (.inl (a3))), (5, .inr (.inl (a5)))] [] h hE (some (.inl (v))) := by
  unfold b_X9_isNew_14 at hf
  obtain ⟨x1, e1, hf⟩ := bnd hf
  obtain ⟨x2, e2, hf⟩ := bnd hf
  have mE : hp_n h ≤ hp_n hE ∧ hp_s h ≤ hp_s hE := by
    by_cases hc : (32768 : Int32) ≤ x2
    · rw [if_pos hc] at hf; exact (q_X9_isNew_28 hf).1
    · rw [if_neg hc] at hf; exact (q_X9_isNew_24 hf).1
  refine ⟨by omega, fun X g K ok nmx lev hK en => ?_⟩
  refine tj_aload_n ok 0 dX9_isNew_14 rfl rfl ?_
  refine tj_getR (k := 3) ok fcX9 (by decide) wm_168 rfl (Or.inr ⟨_, rfl⟩) dX9_isNew_15 e1 ?_
  refine tj_alen ok dX9_isNew_18 e2 ?_
  refine tj_ldc (v := 32768) ok dX9_isNew_19 wm_445 ?_
  refine tj_icmp_ge (tgt := 28) ok dX9_isNew_21 (by decide) (fun hc => ?_) (fun hc => ?_)
  · rw [if_pos hc] at hf
    exact (q_X9_isNew_28 hf).2 X g K ok nmx lev hK en
  · rw [if_neg hc] at hf
    exact (q_X9_isNew_24 hf).2 X g K ok nmx lev hK en
def b_X9_isNew_0 (a0 : Nat) (a1 : Int64) (a3 : Int64) (a5 : Int64) (h : AH) : Option (Int32 × AH) :=
  (g_i h a0 9 5).bind fun x1 => (g_r h a0 9 3).bind fun x2 => (al_n h x2).bind fun x3 => (dv_i x3 (2 : Int32)).bind fun x4 => if x1 < x4 then b_X9_isNew_28 a0 a1 a3 a5 h else b_X9_isNew_14 a0 a1 a3 a5 h
set_option maxHeartbeats 4000000 in
set_option maxRecDepth 100000 in
theorem q_X9_isNew_0 {a0 : Nat} {a1 : Int64} {a3 : Int64} {a5 : Int64} {h hE : AH} {v : Int32} (hf : b_X9_isNew_0 a0 a1 a3 a5 h = some (v, hE)) : JD cX9_isNew 8 RX9 "isNew" (some .boolean) (4) 0 [(0, .inr (.inr (a0))), (1, .inr (.inl (a1))), (3, .inr (.inl (a3))), (5, .inr (.inl (a5)))] [] h hE (some (.inl (v))) := by
  unfold b_X9_isNew_0 at hf
  obtain ⟨x1, e1, hf⟩ := bnd hf
  obtain ⟨x2, e2, hf⟩ := bnd hf
  obtain ⟨x3, e3, hf⟩ := bnd hf
  obtain ⟨x4, e4, hf⟩ := bnd hf
  have mE : hp_n h ≤ hp_n hE ∧ hp_s h ≤ hp_s hE := by
    by_cases hc : x1 < x4
    · rw [if_pos hc] at hf; exact (q_X9_isNew_28 hf).1
    · rw [if_neg hc] at hf; exact (q_X9_isNew_14 hf).1
  refine ⟨by omega, fun X g K ok nmx lev hK en => ?_⟩
  refine tj_aload_n ok 0 dX9_isNew_0 rfl rfl ?_
  refine tj_getI (k := 5) ok fcX9 (by decide) wm_170 rfl (Or.inl rfl) dX9_isNew_1 e1 ?_
  refine tj_aload_n ok 0 dX9_isNew_4 rfl rfl ?_
  refine tj_getR (k := 3) ok fcX9 (by decide) wm_168 rfl (Or.inr ⟨_, rfl⟩) dX9_isNew_5 e2 ?_
  refine tj_alen ok dX9_isNew_8 e3 ?_
  refine tj_iconst (v := 2) ok dX9_isNew_9 (by decide) ?_
  refine tj_idiv ok dX9_isNew_10 e4 ?_
  refine tj_icmp_lt (tgt := 28) ok dX9_isNew_11 (by decide) (fun hc => ?_) (fun hc => ?_)
  · rw [if_pos hc] at hf
    exact (q_X9_isNew_28 hf).2 X g K ok nmx lev hK en
  · rw [if_neg hc] at hf
    exact (q_X9_isNew_14 hf).2 X g K ok nmx lev hK en
def f_X9_isNew (a0 : Nat) (a1 : Int64) (a3 : Int64) (a5 : Int64) (h : AH) : Option (Int32 × AH) := b_X9_isNew_0  a0 a1 a3 a5 h
theorem c_X9_isNew {a0 : Nat} {a1 : Int64} {a3 : Int64} {a5 : Int64} {h hE : AH} {v : Int32} (hf : f_X9_isNew a0 a1 a3 a5 h = some (v, hE)) : ∀ g : GT, CM g (4) yX9_isNew cX9_isNew 8 (some .boolean) h [.inr (.inr (a0)), .inr (.inl (a1)), .inr (.inl (a3)), .inr (.inl (a5))] hE (some (.inl (v))) :=
  CM.ofJ (by decide) (by show _ ≤ 8; exact Nat.le_of_ble_eq_true rfl) (q_X9_isNew_0 hf)
