theorem dX8_init_0 : decode cX8_init 0 = .ok (.aload_n 0, 1) := by decide +kernel
theorem dX8_init_1 : decode cX8_init 1 = .ok (.invokespecial 3, 3) := by decide +kernel
theorem dX8_init_4 : decode cX8_init 4 = .ok (.aload_n 0, 1) := by decide +kernel
theorem dX8_init_5 : decode cX8_init 5 = .ok (.new 9, 3) := by decide +kernel
theorem dX8_init_8 : decode cX8_init 8 = .ok (.dup, 1) := by decide +kernel
theorem dX8_init_9 : decode cX8_init 9 = .ok (.invokespecial 11, 3) := by decide +kernel
theorem dX8_init_12 : decode cX8_init 12 = .ok (.putfield 12, 3) := by decide +kernel
theorem dX8_init_15 : decode cX8_init 15 = .ok (.aload_n 0, 1) := by decide +kernel
theorem dX8_init_16 : decode cX8_init 16 = .ok (.new 18, 3) := by decide +kernel
theorem dX8_init_19 : decode cX8_init 19 = .ok (.dup, 1) := by decide +kernel
theorem dX8_init_20 : decode cX8_init 20 = .ok (.invokespecial 20, 3) := by decide +kernel
theorem dX8_init_23 : decode cX8_init 23 = .ok (.putfield 21, 3) := by decide +kernel
theorem dX8_init_26 : decode cX8_init 26 = .ok (.aload_n 0, 1) := by decide +kernel
theorem dX8_init_27 : decode cX8_init 27 = .ok (.new 25, 3) := by decide +kernel
theorem dX8_init_30 : decode cX8_init 30 = .ok (.dup, 1) := by decide +kernel
theorem dX8_init_31 : decode cX8_init 31 = .ok (.invokespecial 27, 3) := by decide +kernel
theorem dX8_init_34 : decode cX8_init 34 = .ok (.putfield 28, 3) := by decide +kernel
theorem dX8_init_37 : decode cX8_init 37 = .ok (.aload_n 0, 1) := by decide +kernel
theorem dX8_init_38 : decode cX8_init 38 = .ok (.bipush 17, 2) := by decide +kernel
theorem dX8_init_40 : decode cX8_init 40 = .ok (.newarray .int, 2) := by decide +kernel
theorem dX8_init_42 : decode cX8_init 42 = .ok (.putfield 32, 3) := by decide +kernel
theorem dX8_init_45 : decode cX8_init 45 = .ok (.aload_n 0, 1) := by decide +kernel
theorem dX8_init_46 : decode cX8_init 46 = .ok (.bipush 17, 2) := by decide +kernel
theorem dX8_init_48 : decode cX8_init 48 = .ok (.newarray .int, 2) := by decide +kernel
theorem dX8_init_50 : decode cX8_init 50 = .ok (.putfield 36, 3) := by decide +kernel
theorem dX8_init_53 : decode cX8_init 53 = .ok (.aload_n 0, 1) := by decide +kernel
theorem dX8_init_54 : decode cX8_init 54 = .ok (.iconst 0, 1) := by decide +kernel
theorem dX8_init_55 : decode cX8_init 55 = .ok (.putfield 39, 3) := by decide +kernel
theorem dX8_init_58 : decode cX8_init 58 = .ok (.aload_n 0, 1) := by decide +kernel
theorem dX8_init_59 : decode cX8_init 59 = .ok (.iconst 0, 1) := by decide +kernel
theorem dX8_init_60 : decode cX8_init 60 = .ok (.putfield 43, 3) := by decide +kernel
theorem dX8_init_63 : decode cX8_init 63 = .ok (.aload_n 0, 1) := by decide +kernel
theorem dX8_init_64 : decode cX8_init 64 = .ok (.aconst_null, 1) := by decide +kernel
theorem dX8_init_65 : decode cX8_init 65 = .ok (.putfield 46, 3) := by decide +kernel
theorem dX8_init_68 : decode cX8_init 68 = .ok (.aload_n 0, 1) := by decide +kernel
theorem dX8_init_69 : decode cX8_init 69 = .ok (.iconst 0, 1) := by decide +kernel
theorem dX8_init_70 : decode cX8_init 70 = .ok (.putfield 50, 3) := by decide +kernel
theorem dX8_init_73 : decode cX8_init 73 = .ok (.aload_n 0, 1) := by decide +kernel
theorem dX8_init_74 : decode cX8_init 74 = .ok (.aconst_null, 1) := by decide +kernel
theorem dX8_init_75 : decode cX8_init 75 = .ok (.putfield 53, 3) := by decide +kernel
theorem dX8_init_78 : decode cX8_init 78 = .ok (.aload_n 0, 1) := by decide +kernel
theorem dX8_init_79 : decode cX8_init 79 = .ok (.aconst_null, 1) := by decide +kernel
theorem dX8_init_80 : decode cX8_init 80 = .ok (.putfield 56, 3) := by decide +kernel
theorem dX8_init_83 : decode cX8_init 83 = .ok (.aload_n 0, 1) := by decide +kernel
theorem dX8_init_84 : decode cX8_init 84 = .ok (.iconst 0, 1) := by decide +kernel
theorem dX8_init_85 : decode cX8_init 85 = .ok (.putfield 59, 3) := by decide +kernel
theorem dX8_init_88 : decode cX8_init 88 = .ok (.aload_n 0, 1) := by decide +kernel
theorem dX8_init_89 : decode cX8_init 89 = .ok (.lconst 0, 1) := by decide +kernel
theorem dX8_init_90 : decode cX8_init 90 = .ok (.putfield 63, 3) := by decide +kernel
theorem dX8_init_93 : decode cX8_init 93 = .ok (.return_, 1) := by decide +kernel
theorem dX8_begin_0 : decode cX8_begin 0 = .ok (.aload_n 0, 1) := by decide +kernel
theorem dX8_begin_1 : decode cX8_begin 1 = .ok (.aload_n 1, 1) := by decide +kernel
theorem dX8_begin_2 : decode cX8_begin 2 = .ok (.putfield 46, 3) := by decide +kernel
theorem dX8_begin_5 : decode cX8_begin 5 = .ok (.aload_n 0, 1) := by decide +kernel
theorem dX8_begin_6 : decode cX8_begin 6 = .ok (.iload 4, 2) := by decide +kernel
theorem dX8_begin_8 : decode cX8_begin 8 = .ok (.putfield 50, 3) := by decide +kernel
theorem dX8_begin_11 : decode cX8_begin 11 = .ok (.aload_n 0, 1) := by decide +kernel
theorem dX8_begin_12 : decode cX8_begin 12 = .ok (.iconst 0, 1) := by decide +kernel
theorem dX8_begin_13 : decode cX8_begin 13 = .ok (.putfield 59, 3) := by decide +kernel
theorem dX8_begin_16 : decode cX8_begin 16 = .ok (.aload_n 0, 1) := by decide +kernel
theorem dX8_begin_17 : decode cX8_begin 17 = .ok (.getfield 21, 3) := by decide +kernel
theorem dX8_begin_20 : decode cX8_begin 20 = .ok (.invokevirtual 97, 3) := by decide +kernel
theorem dX8_begin_23 : decode cX8_begin 23 = .ok (.aload_n 0, 1) := by decide +kernel
theorem dX8_begin_24 : decode cX8_begin 24 = .ok (.getfield 12, 3) := by decide +kernel
theorem dX8_begin_27 : decode cX8_begin 27 = .ok (.aload_n 1, 1) := by decide +kernel
theorem dX8_begin_28 : decode cX8_begin 28 = .ok (.getfield 98, 3) := by decide +kernel
theorem dX8_begin_31 : decode cX8_begin 31 = .ok (.iload_n 2, 1) := by decide +kernel
theorem dX8_begin_32 : decode cX8_begin 32 = .ok (.iload_n 3, 1) := by decide +kernel
theorem dX8_begin_33 : decode cX8_begin 33 = .ok (.invokevirtual 102, 3) := by decide +kernel
theorem dX8_begin_36 : decode cX8_begin 36 = .ok (.return_, 1) := by decide +kernel
theorem dX8_doActions_0 : decode cX8_doActions 0 = .ok (.aload_n 0, 1) := by decide +kernel
theorem dX8_doActions_1 : decode cX8_doActions 1 = .ok (.getfield 12, 3) := by decide +kernel
theorem dX8_doActions_4 : decode cX8_doActions 4 = .ok (.lload_n 1, 1) := by decide +kernel
theorem dX8_doActions_5 : decode cX8_doActions 5 = .ok (.lload_n 3, 1) := by decide +kernel
theorem dX8_doActions_6 : decode cX8_doActions 6 = .ok (.lload 5, 2) := by decide +kernel
theorem dX8_doActions_8 : decode cX8_doActions 8 = .ok (.invokevirtual 109, 3) := by decide +kernel
theorem dX8_doActions_11 : decode cX8_doActions 11 = .ok (.aload_n 0, 1) := by decide +kernel
theorem dX8_doActions_12 : decode cX8_doActions 12 = .ok (.getfield 12, 3) := by decide +kernel
theorem dX8_doActions_15 : decode cX8_doActions 15 = .ok (.iload 7, 2) := by decide +kernel
theorem dX8_doActions_17 : decode cX8_doActions 17 = .ok (.invokevirtual 142, 3) := by decide +kernel
theorem dX8_doActions_20 : decode cX8_doActions 20 = .ok (.ifCond .ne 5, 3) := by decide +kernel
theorem dX8_doActions_23 : decode cX8_doActions 23 = .ok (.iconst 0, 1) := by decide +kernel
theorem dX8_doActions_24 : decode cX8_doActions 24 = .ok (.ireturn, 1) := by decide +kernel
theorem dX8_doActions_25 : decode cX8_doActions 25 = .ok (.aload_n 0, 1) := by decide +kernel
theorem dX8_doActions_26 : decode cX8_doActions 26 = .ok (.getfield 12, 3) := by decide +kernel
theorem dX8_doActions_29 : decode cX8_doActions 29 = .ok (.iload 7, 2) := by decide +kernel
theorem dX8_doActions_31 : decode cX8_doActions 31 = .ok (.invokevirtual 145, 3) := by decide +kernel
theorem dX8_doActions_34 : decode cX8_doActions 34 = .ok (.istore 9, 2) := by decide +kernel
theorem dX8_doActions_36 : decode cX8_doActions 36 = .ok (.iconst 0, 1) := by decide +kernel
theorem dX8_doActions_37 : decode cX8_doActions 37 = .ok (.istore 10, 2) := by decide +kernel
theorem dX8_doActions_39 : decode cX8_doActions 39 = .ok (.iload 10, 2) := by decide +kernel
theorem dX8_doActions_41 : decode cX8_doActions 41 = .ok (.bipush 8, 2) := by decide +kernel
theorem dX8_doActions_43 : decode cX8_doActions 43 = .ok (.if_icmp .gt 94, 3) := by decide +kernel
theorem dX8_doActions_46 : decode cX8_doActions 46 = .ok (.iload 9, 2) := by decide +kernel
theorem dX8_doActions_48 : decode cX8_doActions 48 = .ok (.iload 10, 2) := by decide +kernel
theorem dX8_doActions_50 : decode cX8_doActions 50 = .ok (.ishr, 1) := by decide +kernel
theorem dX8_doActions_51 : decode cX8_doActions 51 = .ok (.iconst 1, 1) := by decide +kernel
theorem dX8_doActions_52 : decode cX8_doActions 52 = .ok (.iand, 1) := by decide +kernel
theorem dX8_doActions_53 : decode cX8_doActions 53 = .ok (.ifCond .eq 78, 3) := by decide +kernel
theorem dX8_doActions_56 : decode cX8_doActions 56 = .ok (.aload_n 0, 1) := by decide +kernel
theorem dX8_doActions_57 : decode cX8_doActions 57 = .ok (.getfield 12, 3) := by decide +kernel
theorem dX8_doActions_60 : decode cX8_doActions 60 = .ok (.lload_n 1, 1) := by decide +kernel
theorem dX8_doActions_61 : decode cX8_doActions 61 = .ok (.lload_n 3, 1) := by decide +kernel
theorem dX8_doActions_62 : decode cX8_doActions 62 = .ok (.lload 5, 2) := by decide +kernel
theorem dX8_doActions_64 : decode cX8_doActions 64 = .ok (.invokevirtual 109, 3) := by decide +kernel
theorem dX8_doActions_67 : decode cX8_doActions 67 = .ok (.aload_n 0, 1) := by decide +kernel
theorem dX8_doActions_68 : decode cX8_doActions 68 = .ok (.getfield 12, 3) := by decide +kernel
theorem dX8_doActions_71 : decode cX8_doActions 71 = .ok (.iload 7, 2) := by decide +kernel
theorem dX8_doActions_73 : decode cX8_doActions 73 = .ok (.iload 10, 2) := by decide +kernel
theorem dX8_doActions_75 : decode cX8_doActions 75 = .ok (.invokevirtual 148, 3) := by decide +kernel
theorem dX8_doActions_78 : decode cX8_doActions 78 = .ok (.iload 8, 2) := by decide +kernel
theorem dX8_doActions_80 : decode cX8_doActions 80 = .ok (.ifCond .lt 22, 3) := by decide +kernel
theorem dX8_doActions_83 : decode cX8_doActions 83 = .ok (.iload 8, 2) := by decide +kernel
theorem dX8_doActions_85 : decode cX8_doActions 85 = .ok (.aload_n 0, 1) := by decide +kernel
theorem dX8_doActions_86 : decode cX8_doActions 86 = .ok (.getfield 32, 3) := by decide +kernel
theorem dX8_doActions_89 : decode cX8_doActions 89 = .ok (.arraylength, 1) := by decide +kernel
theorem dX8_doActions_90 : decode cX8_doActions 90 = .ok (.if_icmp .ge 12, 3) := by decide +kernel
theorem dX8_doActions_93 : decode cX8_doActions 93 = .ok (.aload_n 0, 1) := by decide +kernel
theorem dX8_doActions_94 : decode cX8_doActions 94 = .ok (.getfield 32, 3) := by decide +kernel
theorem dX8_doActions_97 : decode cX8_doActions 97 = .ok (.iload 8, 2) := by decide +kernel
theorem dX8_doActions_99 : decode cX8_doActions 99 = .ok (.iload 7, 2) := by decide +kernel
theorem dX8_doActions_101 : decode cX8_doActions 101 = .ok (.iastore, 1) := by decide +kernel
theorem dX8_doActions_102 : decode cX8_doActions 102 = .ok (.aload_n 0, 1) := by decide +kernel
theorem dX8_doActions_103 : decode cX8_doActions 103 = .ok (.aload_n 0, 1) := by decide +kernel
theorem dX8_doActions_104 : decode cX8_doActions 104 = .ok (.getfield 12, 3) := by decide +kernel
theorem dX8_doActions_107 : decode cX8_doActions 107 = .ok (.getfield 80, 3) := by decide +kernel
theorem dX8_doActions_110 : decode cX8_doActions 110 = .ok (.aload_n 0, 1) := by decide +kernel
theorem dX8_doActions_111 : decode cX8_doActions 111 = .ok (.getfield 12, 3) := by decide +kernel
theorem dX8_doActions_114 : decode cX8_doActions 114 = .ok (.getfield 83, 3) := by decide +kernel
theorem dX8_doActions_117 : decode cX8_doActions 117 = .ok (.aload_n 0, 1) := by decide +kernel
theorem dX8_doActions_118 : decode cX8_doActions 118 = .ok (.getfield 12, 3) := by decide +kernel
theorem dX8_doActions_121 : decode cX8_doActions 121 = .ok (.getfield 86, 3) := by decide +kernel
theorem dX8_doActions_124 : decode cX8_doActions 124 = .ok (.iload 8, 2) := by decide +kernel
theorem dX8_doActions_126 : decode cX8_doActions 126 = .ok (.iconst 1, 1) := by decide +kernel
theorem dX8_doActions_127 : decode cX8_doActions 127 = .ok (.iadd, 1) := by decide +kernel
theorem dX8_doActions_128 : decode cX8_doActions 128 = .ok (.invokevirtual 89, 3) := by decide +kernel
theorem dX8_doActions_131 : decode cX8_doActions 131 = .ok (.iinc 10 1, 3) := by decide +kernel
theorem dX8_doActions_134 : decode cX8_doActions 134 = .ok (.goto (-95), 3) := by decide +kernel
theorem dX8_doActions_137 : decode cX8_doActions 137 = .ok (.iconst 1, 1) := by decide +kernel
theorem dX8_doActions_138 : decode cX8_doActions 138 = .ok (.ireturn, 1) := by decide +kernel
theorem dX8_doEmptying_0 : decode cX8_doEmptying 0 = .ok (.aload_n 0, 1) := by decide +kernel
theorem dX8_doEmptying_1 : decode cX8_doEmptying 1 = .ok (.getfield 12, 3) := by decide +kernel
theorem dX8_doEmptying_4 : decode cX8_doEmptying 4 = .ok (.lload_n 1, 1) := by decide +kernel
theorem dX8_doEmptying_5 : decode cX8_doEmptying 5 = .ok (.lload_n 3, 1) := by decide +kernel
theorem dX8_doEmptying_6 : decode cX8_doEmptying 6 = .ok (.lload 5, 2) := by decide +kernel
theorem dX8_doEmptying_8 : decode cX8_doEmptying 8 = .ok (.invokevirtual 109, 3) := by decide +kernel
theorem dX8_doEmptying_11 : decode cX8_doEmptying 11 = .ok (.aload_n 0, 1) := by decide +kernel
theorem dX8_doEmptying_12 : decode cX8_doEmptying 12 = .ok (.getfield 12, 3) := by decide +kernel
theorem dX8_doEmptying_15 : decode cX8_doEmptying 15 = .ok (.iload 7, 2) := by decide +kernel
theorem dX8_doEmptying_17 : decode cX8_doEmptying 17 = .ok (.invokevirtual 136, 3) := by decide +kernel
theorem dX8_doEmptying_20 : decode cX8_doEmptying 20 = .ok (.ifCond .ne 5, 3) := by decide +kernel
theorem dX8_doEmptying_23 : decode cX8_doEmptying 23 = .ok (.iconst 0, 1) := by decide +kernel
theorem dX8_doEmptying_24 : decode cX8_doEmptying 24 = .ok (.ireturn, 1) := by decide +kernel
theorem dX8_doEmptying_25 : decode cX8_doEmptying 25 = .ok (.aload_n 0, 1) := by decide +kernel
theorem dX8_doEmptying_26 : decode cX8_doEmptying 26 = .ok (.getfield 12, 3) := by decide +kernel
theorem dX8_doEmptying_29 : decode cX8_doEmptying 29 = .ok (.iload 7, 2) := by decide +kernel
theorem dX8_doEmptying_31 : decode cX8_doEmptying 31 = .ok (.invokevirtual 139, 3) := by decide +kernel
theorem dX8_doEmptying_34 : decode cX8_doEmptying 34 = .ok (.aload_n 0, 1) := by decide +kernel
theorem dX8_doEmptying_35 : decode cX8_doEmptying 35 = .ok (.aload_n 0, 1) := by decide +kernel
theorem dX8_doEmptying_36 : decode cX8_doEmptying 36 = .ok (.getfield 12, 3) := by decide +kernel
theorem dX8_doEmptying_39 : decode cX8_doEmptying 39 = .ok (.getfield 80, 3) := by decide +kernel
theorem dX8_doEmptying_42 : decode cX8_doEmptying 42 = .ok (.aload_n 0, 1) := by decide +kernel
theorem dX8_doEmptying_43 : decode cX8_doEmptying 43 = .ok (.getfield 12, 3) := by decide +kernel
theorem dX8_doEmptying_46 : decode cX8_doEmptying 46 = .ok (.getfield 83, 3) := by decide +kernel
theorem dX8_doEmptying_49 : decode cX8_doEmptying 49 = .ok (.aload_n 0, 1) := by decide +kernel
theorem dX8_doEmptying_50 : decode cX8_doEmptying 50 = .ok (.getfield 12, 3) := by decide +kernel
theorem dX8_doEmptying_53 : decode cX8_doEmptying 53 = .ok (.getfield 86, 3) := by decide +kernel
theorem dX8_doEmptying_56 : decode cX8_doEmptying 56 = .ok (.iload 8, 2) := by decide +kernel
theorem dX8_doEmptying_58 : decode cX8_doEmptying 58 = .ok (.iconst 1, 1) := by decide +kernel
theorem dX8_doEmptying_59 : decode cX8_doEmptying 59 = .ok (.iadd, 1) := by decide +kernel
theorem dX8_doEmptying_60 : decode cX8_doEmptying 60 = .ok (.invokevirtual 89, 3) := by decide +kernel
theorem dX8_doEmptying_63 : decode cX8_doEmptying 63 = .ok (.iconst 1, 1) := by decide +kernel
theorem dX8_doEmptying_64 : decode cX8_doEmptying 64 = .ok (.ireturn, 1) := by decide +kernel
theorem dX8_noteOrder_0 : decode cX8_noteOrder 0 = .ok (.aload_n 0, 1) := by decide +kernel
theorem dX8_noteOrder_1 : decode cX8_noteOrder 1 = .ok (.getfield 12, 3) := by decide +kernel
theorem dX8_noteOrder_4 : decode cX8_noteOrder 4 = .ok (.invokevirtual 187, 3) := by decide +kernel
theorem dX8_noteOrder_7 : decode cX8_noteOrder 7 = .ok (.istore_n 1, 1) := by decide +kernel
theorem dX8_noteOrder_8 : decode cX8_noteOrder 8 = .ok (.lconst 0, 1) := by decide +kernel
theorem dX8_noteOrder_9 : decode cX8_noteOrder 9 = .ok (.lstore_n 2, 1) := by decide +kernel
theorem dX8_noteOrder_10 : decode cX8_noteOrder 10 = .ok (.iconst 0, 1) := by decide +kernel
theorem dX8_noteOrder_11 : decode cX8_noteOrder 11 = .ok (.istore 4, 2) := by decide +kernel
theorem dX8_noteOrder_13 : decode cX8_noteOrder 13 = .ok (.iload 4, 2) := by decide +kernel
theorem dX8_noteOrder_15 : decode cX8_noteOrder 15 = .ok (.bipush 8, 2) := by decide +kernel
theorem dX8_noteOrder_17 : decode cX8_noteOrder 17 = .ok (.if_icmp .ge 29, 3) := by decide +kernel
theorem dX8_noteOrder_20 : decode cX8_noteOrder 20 = .ok (.iload_n 1, 1) := by decide +kernel
theorem dX8_noteOrder_21 : decode cX8_noteOrder 21 = .ok (.iload 4, 2) := by decide +kernel
theorem dX8_noteOrder_23 : decode cX8_noteOrder 23 = .ok (.ishr, 1) := by decide +kernel
theorem dX8_noteOrder_24 : decode cX8_noteOrder 24 = .ok (.iconst 1, 1) := by decide +kernel
theorem dX8_noteOrder_25 : decode cX8_noteOrder 25 = .ok (.iand, 1) := by decide +kernel
theorem dX8_noteOrder_26 : decode cX8_noteOrder 26 = .ok (.ifCond .eq 14, 3) := by decide +kernel
theorem dX8_noteOrder_29 : decode cX8_noteOrder 29 = .ok (.lload_n 2, 1) := by decide +kernel
theorem dX8_noteOrder_30 : decode cX8_noteOrder 30 = .ok (.iload_n 1, 1) := by decide +kernel
theorem dX8_noteOrder_31 : decode cX8_noteOrder 31 = .ok (.i2l, 1) := by decide +kernel
theorem dX8_noteOrder_32 : decode cX8_noteOrder 32 = .ok (.bipush 8, 2) := by decide +kernel
theorem dX8_noteOrder_34 : decode cX8_noteOrder 34 = .ok (.iload 4, 2) := by decide +kernel
theorem dX8_noteOrder_36 : decode cX8_noteOrder 36 = .ok (.imul, 1) := by decide +kernel
theorem dX8_noteOrder_37 : decode cX8_noteOrder 37 = .ok (.lshl, 1) := by decide +kernel
theorem dX8_noteOrder_38 : decode cX8_noteOrder 38 = .ok (.lor, 1) := by decide +kernel
theorem dX8_noteOrder_39 : decode cX8_noteOrder 39 = .ok (.lstore_n 2, 1) := by decide +kernel
theorem dX8_noteOrder_40 : decode cX8_noteOrder 40 = .ok (.iinc 4 1, 3) := by decide +kernel
theorem dX8_noteOrder_43 : decode cX8_noteOrder 43 = .ok (.goto (-30), 3) := by decide +kernel
theorem dX8_noteOrder_46 : decode cX8_noteOrder 46 = .ok (.aload_n 0, 1) := by decide +kernel
theorem dX8_noteOrder_47 : decode cX8_noteOrder 47 = .ok (.getfield 46, 3) := by decide +kernel
theorem dX8_noteOrder_50 : decode cX8_noteOrder 50 = .ok (.dup, 1) := by decide +kernel
theorem dX8_noteOrder_51 : decode cX8_noteOrder 51 = .ok (.getfield 190, 3) := by decide +kernel
theorem dX8_noteOrder_54 : decode cX8_noteOrder 54 = .ok (.lload_n 2, 1) := by decide +kernel
theorem dX8_noteOrder_55 : decode cX8_noteOrder 55 = .ok (.lor, 1) := by decide +kernel
theorem dX8_noteOrder_56 : decode cX8_noteOrder 56 = .ok (.putfield 190, 3) := by decide +kernel
theorem dX8_noteOrder_59 : decode cX8_noteOrder 59 = .ok (.aload_n 0, 1) := by decide +kernel
theorem dX8_noteOrder_60 : decode cX8_noteOrder 60 = .ok (.getfield 46, 3) := by decide +kernel
theorem dX8_noteOrder_63 : decode cX8_noteOrder 63 = .ok (.dup, 1) := by decide +kernel
theorem dX8_noteOrder_64 : decode cX8_noteOrder 64 = .ok (.getfield 193, 3) := by decide +kernel
theorem dX8_noteOrder_67 : decode cX8_noteOrder 67 = .ok (.aload_n 0, 1) := by decide +kernel
theorem dX8_noteOrder_68 : decode cX8_noteOrder 68 = .ok (.getfield 12, 3) := by decide +kernel
theorem dX8_noteOrder_71 : decode cX8_noteOrder 71 = .ok (.getfield 86, 3) := by decide +kernel
theorem dX8_noteOrder_74 : decode cX8_noteOrder 74 = .ok (.lor, 1) := by decide +kernel
theorem dX8_noteOrder_75 : decode cX8_noteOrder 75 = .ok (.putfield 193, 3) := by decide +kernel
theorem dX8_noteOrder_78 : decode cX8_noteOrder 78 = .ok (.aload_n 0, 1) := by decide +kernel
theorem dX8_noteOrder_79 : decode cX8_noteOrder 79 = .ok (.getfield 46, 3) := by decide +kernel
theorem dX8_noteOrder_82 : decode cX8_noteOrder 82 = .ok (.dup, 1) := by decide +kernel
theorem dX8_noteOrder_83 : decode cX8_noteOrder 83 = .ok (.getfield 196, 3) := by decide +kernel
theorem dX8_noteOrder_86 : decode cX8_noteOrder 86 = .ok (.lload_n 2, 1) := by decide +kernel
theorem dX8_noteOrder_87 : decode cX8_noteOrder 87 = .ok (.aload_n 0, 1) := by decide +kernel
theorem dX8_noteOrder_88 : decode cX8_noteOrder 88 = .ok (.getfield 12, 3) := by decide +kernel
theorem dX8_noteOrder_91 : decode cX8_noteOrder 91 = .ok (.getfield 86, 3) := by decide +kernel
theorem dX8_noteOrder_94 : decode cX8_noteOrder 94 = .ok (.ldc2_w 199, 3) := by decide +kernel
theorem dX8_noteOrder_97 : decode cX8_noteOrder 97 = .ok (.lxor, 1) := by decide +kernel
theorem dX8_noteOrder_98 : decode cX8_noteOrder 98 = .ok (.land, 1) := by decide +kernel
theorem dX8_noteOrder_99 : decode cX8_noteOrder 99 = .ok (.lor, 1) := by decide +kernel
theorem dX8_noteOrder_100 : decode cX8_noteOrder 100 = .ok (.putfield 196, 3) := by decide +kernel
theorem dX8_noteOrder_103 : decode cX8_noteOrder 103 = .ok (.return_, 1) := by decide +kernel
theorem dX8_mayRace_0 : decode cX8_mayRace 0 = .ok (.aload_n 0, 1) := by decide +kernel
theorem dX8_mayRace_1 : decode cX8_mayRace 1 = .ok (.getfield 46, 3) := by decide +kernel
theorem dX8_mayRace_4 : decode cX8_mayRace 4 = .ok (.getfield 98, 3) := by decide +kernel
theorem dX8_mayRace_7 : decode cX8_mayRace 7 = .ok (.astore_n 3, 1) := by decide +kernel
theorem dX8_mayRace_8 : decode cX8_mayRace 8 = .ok (.aload_n 3, 1) := by decide +kernel
theorem dX8_mayRace_9 : decode cX8_mayRace 9 = .ok (.getfield 205, 3) := by decide +kernel
theorem dX8_mayRace_12 : decode cX8_mayRace 12 = .ok (.iload_n 1, 1) := by decide +kernel
theorem dX8_mayRace_13 : decode cX8_mayRace 13 = .ok (.bipush 7, 2) := by decide +kernel
theorem dX8_mayRace_15 : decode cX8_mayRace 15 = .ok (.iand, 1) := by decide +kernel
theorem dX8_mayRace_16 : decode cX8_mayRace 16 = .ok (.iaload, 1) := by decide +kernel
theorem dX8_mayRace_17 : decode cX8_mayRace 17 = .ok (.bipush 63, 2) := by decide +kernel
theorem dX8_mayRace_19 : decode cX8_mayRace 19 = .ok (.iand, 1) := by decide +kernel
theorem dX8_mayRace_20 : decode cX8_mayRace 20 = .ok (.istore 4, 2) := by decide +kernel
theorem dX8_mayRace_22 : decode cX8_mayRace 22 = .ok (.aload_n 3, 1) := by decide +kernel
theorem dX8_mayRace_23 : decode cX8_mayRace 23 = .ok (.getfield 205, 3) := by decide +kernel
theorem dX8_mayRace_26 : decode cX8_mayRace 26 = .ok (.iload_n 2, 1) := by decide +kernel
theorem dX8_mayRace_27 : decode cX8_mayRace 27 = .ok (.bipush 7, 2) := by decide +kernel
theorem dX8_mayRace_29 : decode cX8_mayRace 29 = .ok (.iand, 1) := by decide +kernel
theorem dX8_mayRace_30 : decode cX8_mayRace 30 = .ok (.iaload, 1) := by decide +kernel
theorem dX8_mayRace_31 : decode cX8_mayRace 31 = .ok (.bipush 63, 2) := by decide +kernel
theorem dX8_mayRace_33 : decode cX8_mayRace 33 = .ok (.iand, 1) := by decide +kernel
theorem dX8_mayRace_34 : decode cX8_mayRace 34 = .ok (.istore 5, 2) := by decide +kernel
theorem dX8_mayRace_36 : decode cX8_mayRace 36 = .ok (.aload_n 3, 1) := by decide +kernel
theorem dX8_mayRace_37 : decode cX8_mayRace 37 = .ok (.getfield 208, 3) := by decide +kernel
theorem dX8_mayRace_40 : decode cX8_mayRace 40 = .ok (.iload_n 1, 1) := by decide +kernel
theorem dX8_mayRace_41 : decode cX8_mayRace 41 = .ok (.bipush 7, 2) := by decide +kernel
theorem dX8_mayRace_43 : decode cX8_mayRace 43 = .ok (.iand, 1) := by decide +kernel
theorem dX8_mayRace_44 : decode cX8_mayRace 44 = .ok (.iaload, 1) := by decide +kernel
theorem dX8_mayRace_45 : decode cX8_mayRace 45 = .ok (.aload_n 3, 1) := by decide +kernel
theorem dX8_mayRace_46 : decode cX8_mayRace 46 = .ok (.getfield 208, 3) := by decide +kernel
theorem dX8_mayRace_49 : decode cX8_mayRace 49 = .ok (.iload_n 2, 1) := by decide +kernel
theorem dX8_mayRace_50 : decode cX8_mayRace 50 = .ok (.bipush 7, 2) := by decide +kernel
theorem dX8_mayRace_52 : decode cX8_mayRace 52 = .ok (.iand, 1) := by decide +kernel
theorem dX8_mayRace_53 : decode cX8_mayRace 53 = .ok (.iaload, 1) := by decide +kernel
theorem dX8_mayRace_54 : decode cX8_mayRace 54 = .ok (.if_icmp .eq 86, 3) := by decide +kernel
theorem dX8_mayRace_57 : decode cX8_mayRace 57 = .ok (.aload_n 3, 1) := by decide +kernel
theorem dX8_mayRace_58 : decode cX8_mayRace 58 = .ok (.iload 4, 2) := by decide +kernel
theorem dX8_mayRace_60 : decode cX8_mayRace 60 = .ok (.invokevirtual 211, 3) := by decide +kernel
theorem dX8_mayRace_63 : decode cX8_mayRace 63 = .ok (.ifCond .eq 77, 3) := by decide +kernel
theorem dX8_mayRace_66 : decode cX8_mayRace 66 = .ok (.aload_n 3, 1) := by decide +kernel
theorem dX8_mayRace_67 : decode cX8_mayRace 67 = .ok (.iload 5, 2) := by decide +kernel
theorem dX8_mayRace_69 : decode cX8_mayRace 69 = .ok (.invokevirtual 211, 3) := by decide +kernel
theorem dX8_mayRace_72 : decode cX8_mayRace 72 = .ok (.ifCond .eq 68, 3) := by decide +kernel
theorem dX8_mayRace_75 : decode cX8_mayRace 75 = .ok (.aload_n 3, 1) := by decide +kernel
theorem dX8_mayRace_76 : decode cX8_mayRace 76 = .ok (.getfield 214, 3) := by decide +kernel
theorem dX8_mayRace_79 : decode cX8_mayRace 79 = .ok (.iload 4, 2) := by decide +kernel
theorem dX8_mayRace_81 : decode cX8_mayRace 81 = .ok (.iaload, 1) := by decide +kernel
theorem dX8_mayRace_82 : decode cX8_mayRace 82 = .ok (.iconst 1, 1) := by decide +kernel
theorem dX8_mayRace_83 : decode cX8_mayRace 83 = .ok (.if_icmp .eq 14, 3) := by decide +kernel
theorem dX8_mayRace_86 : decode cX8_mayRace 86 = .ok (.aload_n 3, 1) := by decide +kernel
theorem dX8_mayRace_87 : decode cX8_mayRace 87 = .ok (.getfield 214, 3) := by decide +kernel
theorem dX8_mayRace_90 : decode cX8_mayRace 90 = .ok (.iload 5, 2) := by decide +kernel
theorem dX8_mayRace_92 : decode cX8_mayRace 92 = .ok (.iaload, 1) := by decide +kernel
theorem dX8_mayRace_93 : decode cX8_mayRace 93 = .ok (.iconst 1, 1) := by decide +kernel
theorem dX8_mayRace_94 : decode cX8_mayRace 94 = .ok (.if_icmp .ne 46, 3) := by decide +kernel
theorem dX8_mayRace_97 : decode cX8_mayRace 97 = .ok (.aload_n 3, 1) := by decide +kernel
theorem dX8_mayRace_98 : decode cX8_mayRace 98 = .ok (.getfield 217, 3) := by decide +kernel
theorem dX8_mayRace_101 : decode cX8_mayRace 101 = .ok (.iload 4, 2) := by decide +kernel
theorem dX8_mayRace_103 : decode cX8_mayRace 103 = .ok (.iaload, 1) := by decide +kernel
theorem dX8_mayRace_104 : decode cX8_mayRace 104 = .ok (.aload_n 3, 1) := by decide +kernel
theorem dX8_mayRace_105 : decode cX8_mayRace 105 = .ok (.getfield 217, 3) := by decide +kernel
theorem dX8_mayRace_108 : decode cX8_mayRace 108 = .ok (.iload 5, 2) := by decide +kernel
theorem dX8_mayRace_110 : decode cX8_mayRace 110 = .ok (.iaload, 1) := by decide +kernel
theorem dX8_mayRace_111 : decode cX8_mayRace 111 = .ok (.if_icmp .ne 29, 3) := by decide +kernel
theorem dX8_mayRace_114 : decode cX8_mayRace 114 = .ok (.aload_n 0, 1) := by decide +kernel
theorem dX8_mayRace_115 : decode cX8_mayRace 115 = .ok (.getfield 46, 3) := by decide +kernel
theorem dX8_mayRace_118 : decode cX8_mayRace 118 = .ok (.getfield 220, 3) := by decide +kernel
theorem dX8_mayRace_121 : decode cX8_mayRace 121 = .ok (.aload_n 3, 1) := by decide +kernel
theorem dX8_mayRace_122 : decode cX8_mayRace 122 = .ok (.getfield 217, 3) := by decide +kernel
theorem dX8_mayRace_125 : decode cX8_mayRace 125 = .ok (.iload 4, 2) := by decide +kernel
theorem dX8_mayRace_127 : decode cX8_mayRace 127 = .ok (.iaload, 1) := by decide +kernel
theorem dX8_mayRace_128 : decode cX8_mayRace 128 = .ok (.bipush 7, 2) := by decide +kernel
theorem dX8_mayRace_130 : decode cX8_mayRace 130 = .ok (.iand, 1) := by decide +kernel
theorem dX8_mayRace_131 : decode cX8_mayRace 131 = .ok (.iaload, 1) := by decide +kernel
theorem dX8_mayRace_132 : decode cX8_mayRace 132 = .ok (.iconst 1, 1) := by decide +kernel
theorem dX8_mayRace_133 : decode cX8_mayRace 133 = .ok (.if_icmp .eq 7, 3) := by decide +kernel
theorem dX8_mayRace_136 : decode cX8_mayRace 136 = .ok (.iconst 1, 1) := by decide +kernel
theorem dX8_mayRace_137 : decode cX8_mayRace 137 = .ok (.goto 4, 3) := by decide +kernel
theorem dX8_mayRace_140 : decode cX8_mayRace 140 = .ok (.iconst 0, 1) := by decide +kernel
theorem dX8_mayRace_141 : decode cX8_mayRace 141 = .ok (.ireturn, 1) := by decide +kernel
theorem dX8_noteRaces_0 : decode cX8_noteRaces 0 = .ok (.aload_n 0, 1) := by decide +kernel
theorem dX8_noteRaces_1 : decode cX8_noteRaces 1 = .ok (.getfield 12, 3) := by decide +kernel
theorem dX8_noteRaces_4 : decode cX8_noteRaces 4 = .ok (.invokevirtual 187, 3) := by decide +kernel
theorem dX8_noteRaces_7 : decode cX8_noteRaces 7 = .ok (.istore_n 1, 1) := by decide +kernel
theorem dX8_noteRaces_8 : decode cX8_noteRaces 8 = .ok (.iconst 1, 1) := by decide +kernel
theorem dX8_noteRaces_9 : decode cX8_noteRaces 9 = .ok (.istore_n 2, 1) := by decide +kernel
theorem dX8_noteRaces_10 : decode cX8_noteRaces 10 = .ok (.iload_n 2, 1) := by decide +kernel
theorem dX8_noteRaces_11 : decode cX8_noteRaces 11 = .ok (.bipush 8, 2) := by decide +kernel
theorem dX8_noteRaces_13 : decode cX8_noteRaces 13 = .ok (.if_icmp .ge 102, 3) := by decide +kernel
theorem dX8_noteRaces_16 : decode cX8_noteRaces 16 = .ok (.iconst 0, 1) := by decide +kernel
theorem dX8_noteRaces_17 : decode cX8_noteRaces 17 = .ok (.istore_n 3, 1) := by decide +kernel
theorem dX8_noteRaces_18 : decode cX8_noteRaces 18 = .ok (.iload_n 3, 1) := by decide +kernel
theorem dX8_noteRaces_19 : decode cX8_noteRaces 19 = .ok (.iload_n 2, 1) := by decide +kernel
theorem dX8_noteRaces_20 : decode cX8_noteRaces 20 = .ok (.if_icmp .ge 89, 3) := by decide +kernel
theorem dX8_noteRaces_23 : decode cX8_noteRaces 23 = .ok (.iload_n 1, 1) := by decide +kernel
theorem dX8_noteRaces_24 : decode cX8_noteRaces 24 = .ok (.iload_n 3, 1) := by decide +kernel
theorem dX8_noteRaces_25 : decode cX8_noteRaces 25 = .ok (.ishr, 1) := by decide +kernel
theorem dX8_noteRaces_26 : decode cX8_noteRaces 26 = .ok (.iload_n 1, 1) := by decide +kernel
theorem dX8_noteRaces_27 : decode cX8_noteRaces 27 = .ok (.iload_n 2, 1) := by decide +kernel
theorem dX8_noteRaces_28 : decode cX8_noteRaces 28 = .ok (.ishr, 1) := by decide +kernel
theorem dX8_noteRaces_29 : decode cX8_noteRaces 29 = .ok (.iand, 1) := by decide +kernel
theorem dX8_noteRaces_30 : decode cX8_noteRaces 30 = .ok (.iconst 1, 1) := by decide +kernel
theorem dX8_noteRaces_31 : decode cX8_noteRaces 31 = .ok (.iand, 1) := by decide +kernel
theorem dX8_noteRaces_32 : decode cX8_noteRaces 32 = .ok (.ifCond .eq 71, 3) := by decide +kernel
theorem dX8_noteRaces_35 : decode cX8_noteRaces 35 = .ok (.aload_n 0, 1) := by decide +kernel
theorem dX8_noteRaces_36 : decode cX8_noteRaces 36 = .ok (.iload_n 3, 1) := by decide +kernel
theorem dX8_noteRaces_37 : decode cX8_noteRaces 37 = .ok (.iload_n 2, 1) := by decide +kernel
theorem dX8_noteRaces_38 : decode cX8_noteRaces 38 = .ok (.invokevirtual 201, 3) := by decide +kernel
theorem dX8_noteRaces_41 : decode cX8_noteRaces 41 = .ok (.ifCond .eq 62, 3) := by decide +kernel
theorem dX8_noteRaces_44 : decode cX8_noteRaces 44 = .ok (.aload_n 0, 1) := by decide +kernel
theorem dX8_noteRaces_45 : decode cX8_noteRaces 45 = .ok (.getfield 12, 3) := by decide +kernel
theorem dX8_noteRaces_48 : decode cX8_noteRaces 48 = .ok (.getfield 86, 3) := by decide +kernel
theorem dX8_noteRaces_51 : decode cX8_noteRaces 51 = .ok (.bipush 8, 2) := by decide +kernel
theorem dX8_noteRaces_53 : decode cX8_noteRaces 53 = .ok (.iload_n 2, 1) := by decide +kernel
theorem dX8_noteRaces_54 : decode cX8_noteRaces 54 = .ok (.imul, 1) := by decide +kernel
theorem dX8_noteRaces_55 : decode cX8_noteRaces 55 = .ok (.iload_n 3, 1) := by decide +kernel
theorem dX8_noteRaces_56 : decode cX8_noteRaces 56 = .ok (.iadd, 1) := by decide +kernel
theorem dX8_noteRaces_57 : decode cX8_noteRaces 57 = .ok (.lushr, 1) := by decide +kernel
theorem dX8_noteRaces_58 : decode cX8_noteRaces 58 = .ok (.lconst 1, 1) := by decide +kernel
theorem dX8_noteRaces_59 : decode cX8_noteRaces 59 = .ok (.land, 1) := by decide +kernel
theorem dX8_noteRaces_60 : decode cX8_noteRaces 60 = .ok (.lconst 0, 1) := by decide +kernel
theorem dX8_noteRaces_61 : decode cX8_noteRaces 61 = .ok (.lcmp, 1) := by decide +kernel
theorem dX8_noteRaces_62 : decode cX8_noteRaces 62 = .ok (.ifCond .ne 41, 3) := by decide +kernel
theorem dX8_noteRaces_65 : decode cX8_noteRaces 65 = .ok (.aload_n 0, 1) := by decide +kernel
theorem dX8_noteRaces_66 : decode cX8_noteRaces 66 = .ok (.getfield 12, 3) := by decide +kernel
theorem dX8_noteRaces_69 : decode cX8_noteRaces 69 = .ok (.getfield 86, 3) := by decide +kernel
theorem dX8_noteRaces_72 : decode cX8_noteRaces 72 = .ok (.bipush 8, 2) := by decide +kernel
theorem dX8_noteRaces_74 : decode cX8_noteRaces 74 = .ok (.iload_n 3, 1) := by decide +kernel
theorem dX8_noteRaces_75 : decode cX8_noteRaces 75 = .ok (.imul, 1) := by decide +kernel
theorem dX8_noteRaces_76 : decode cX8_noteRaces 76 = .ok (.iload_n 2, 1) := by decide +kernel
theorem dX8_noteRaces_77 : decode cX8_noteRaces 77 = .ok (.iadd, 1) := by decide +kernel
theorem dX8_noteRaces_78 : decode cX8_noteRaces 78 = .ok (.lushr, 1) := by decide +kernel
theorem dX8_noteRaces_79 : decode cX8_noteRaces 79 = .ok (.lconst 1, 1) := by decide +kernel
theorem dX8_noteRaces_80 : decode cX8_noteRaces 80 = .ok (.land, 1) := by decide +kernel
theorem dX8_noteRaces_81 : decode cX8_noteRaces 81 = .ok (.lconst 0, 1) := by decide +kernel
theorem dX8_noteRaces_82 : decode cX8_noteRaces 82 = .ok (.lcmp, 1) := by decide +kernel
theorem dX8_noteRaces_83 : decode cX8_noteRaces 83 = .ok (.ifCond .ne 20, 3) := by decide +kernel
theorem dX8_noteRaces_86 : decode cX8_noteRaces 86 = .ok (.aload_n 0, 1) := by decide +kernel
theorem dX8_noteRaces_87 : decode cX8_noteRaces 87 = .ok (.dup, 1) := by decide +kernel
theorem dX8_noteRaces_88 : decode cX8_noteRaces 88 = .ok (.getfield 63, 3) := by decide +kernel
theorem dX8_noteRaces_91 : decode cX8_noteRaces 91 = .ok (.lconst 1, 1) := by decide +kernel
theorem dX8_noteRaces_92 : decode cX8_noteRaces 92 = .ok (.bipush 8, 2) := by decide +kernel
theorem dX8_noteRaces_94 : decode cX8_noteRaces 94 = .ok (.iload_n 3, 1) := by decide +kernel
theorem dX8_noteRaces_95 : decode cX8_noteRaces 95 = .ok (.imul, 1) := by decide +kernel
theorem dX8_noteRaces_96 : decode cX8_noteRaces 96 = .ok (.iload_n 2, 1) := by decide +kernel
theorem dX8_noteRaces_97 : decode cX8_noteRaces 97 = .ok (.iadd, 1) := by decide +kernel
theorem dX8_noteRaces_98 : decode cX8_noteRaces 98 = .ok (.lshl, 1) := by decide +kernel
theorem dX8_noteRaces_99 : decode cX8_noteRaces 99 = .ok (.lor, 1) := by decide +kernel
theorem dX8_noteRaces_100 : decode cX8_noteRaces 100 = .ok (.putfield 63, 3) := by decide +kernel
theorem dX8_noteRaces_103 : decode cX8_noteRaces 103 = .ok (.iinc 3 1, 3) := by decide +kernel
theorem dX8_noteRaces_106 : decode cX8_noteRaces 106 = .ok (.goto (-88), 3) := by decide +kernel
theorem dX8_noteRaces_109 : decode cX8_noteRaces 109 = .ok (.iinc 2 1, 3) := by decide +kernel
theorem dX8_noteRaces_112 : decode cX8_noteRaces 112 = .ok (.goto (-102), 3) := by decide +kernel
theorem dX8_noteRaces_115 : decode cX8_noteRaces 115 = .ok (.return_, 1) := by decide +kernel
theorem dX8_finish_0 : decode cX8_finish 0 = .ok (.aload_n 0, 1) := by decide +kernel
theorem dX8_finish_1 : decode cX8_finish 1 = .ok (.getfield 12, 3) := by decide +kernel
theorem dX8_finish_4 : decode cX8_finish 4 = .ok (.invokevirtual 152, 3) := by decide +kernel
theorem dX8_finish_7 : decode cX8_finish 7 = .ok (.istore_n 2, 1) := by decide +kernel
theorem dX8_finish_8 : decode cX8_finish 8 = .ok (.aload_n 0, 1) := by decide +kernel
theorem dX8_finish_9 : decode cX8_finish 9 = .ok (.getfield 50, 3) := by decide +kernel
theorem dX8_finish_12 : decode cX8_finish 12 = .ok (.tableswitch 147 0 2 #[28, 54, 91], 28) := by decide +kernel
theorem dX8_finish_40 : decode cX8_finish 40 = .ok (.aload_n 0, 1) := by decide +kernel
theorem dX8_finish_41 : decode cX8_finish 41 = .ok (.getfield 28, 3) := by decide +kernel
theorem dX8_finish_44 : decode cX8_finish 44 = .ok (.iload_n 2, 1) := by decide +kernel
theorem dX8_finish_45 : decode cX8_finish 45 = .ok (.invokevirtual 155, 3) := by decide +kernel
theorem dX8_finish_48 : decode cX8_finish 48 = .ok (.aload_n 0, 1) := by decide +kernel
theorem dX8_finish_49 : decode cX8_finish 49 = .ok (.getfield 12, 3) := by decide +kernel
theorem dX8_finish_52 : decode cX8_finish 52 = .ok (.getfield 158, 3) := by decide +kernel
theorem dX8_finish_55 : decode cX8_finish 55 = .ok (.iconst 2, 1) := by decide +kernel
theorem dX8_finish_56 : decode cX8_finish 56 = .ok (.if_icmp .ne 107, 3) := by decide +kernel
theorem dX8_finish_59 : decode cX8_finish 59 = .ok (.aload_n 0, 1) := by decide +kernel
theorem dX8_finish_60 : decode cX8_finish 60 = .ok (.invokevirtual 161, 3) := by decide +kernel
theorem dX8_finish_63 : decode cX8_finish 63 = .ok (.goto 100, 3) := by decide +kernel
theorem dX8_finish_66 : decode cX8_finish 66 = .ok (.aload_n 0, 1) := by decide +kernel
theorem dX8_finish_67 : decode cX8_finish 67 = .ok (.aload_n 0, 1) := by decide +kernel
theorem dX8_finish_68 : decode cX8_finish 68 = .ok (.getfield 59, 3) := by decide +kernel
theorem dX8_finish_71 : decode cX8_finish 71 = .ok (.ifCond .ne 21, 3) := by decide +kernel
theorem dX8_finish_74 : decode cX8_finish 74 = .ok (.aload_n 0, 1) := by decide +kernel
theorem dX8_finish_75 : decode cX8_finish 75 = .ok (.getfield 56, 3) := by decide +kernel
theorem dX8_finish_78 : decode cX8_finish 78 = .ok (.ifnull 18, 3) := by decide +kernel
theorem dX8_finish_81 : decode cX8_finish 81 = .ok (.aload_n 0, 1) := by decide +kernel
theorem dX8_finish_82 : decode cX8_finish 82 = .ok (.getfield 56, 3) := by decide +kernel
theorem dX8_finish_85 : decode cX8_finish 85 = .ok (.iload_n 2, 1) := by decide +kernel
theorem dX8_finish_86 : decode cX8_finish 86 = .ok (.invokestatic 164, 3) := by decide +kernel
theorem dX8_finish_89 : decode cX8_finish 89 = .ok (.ifCond .ne 7, 3) := by decide +kernel
theorem dX8_finish_92 : decode cX8_finish 92 = .ok (.iconst 1, 1) := by decide +kernel
theorem dX8_finish_93 : decode cX8_finish 93 = .ok (.goto 4, 3) := by decide +kernel
theorem dX8_finish_96 : decode cX8_finish 96 = .ok (.iconst 0, 1) := by decide +kernel
theorem dX8_finish_97 : decode cX8_finish 97 = .ok (.putfield 59, 3) := by decide +kernel
theorem dX8_finish_100 : decode cX8_finish 100 = .ok (.goto 63, 3) := by decide +kernel
theorem dX8_finish_103 : decode cX8_finish 103 = .ok (.iload_n 1, 1) := by decide +kernel
theorem dX8_finish_104 : decode cX8_finish 104 = .ok (.aload_n 0, 1) := by decide +kernel
theorem dX8_finish_105 : decode cX8_finish 105 = .ok (.getfield 43, 3) := by decide +kernel
theorem dX8_finish_108 : decode cX8_finish 108 = .ok (.if_icmp .ge 55, 3) := by decide +kernel
theorem dX8_finish_111 : decode cX8_finish 111 = .ok (.aload_n 0, 1) := by decide +kernel
theorem dX8_finish_112 : decode cX8_finish 112 = .ok (.getfield 53, 3) := by decide +kernel
theorem dX8_finish_115 : decode cX8_finish 115 = .ok (.ifnull 48, 3) := by decide +kernel
theorem dX8_finish_118 : decode cX8_finish 118 = .ok (.iload_n 2, 1) := by decide +kernel
theorem dX8_finish_119 : decode cX8_finish 119 = .ok (.aload_n 0, 1) := by decide +kernel
theorem dX8_finish_120 : decode cX8_finish 120 = .ok (.getfield 53, 3) := by decide +kernel
theorem dX8_finish_123 : decode cX8_finish 123 = .ok (.invokestatic 168, 3) := by decide +kernel
theorem dX8_finish_126 : decode cX8_finish 126 = .ok (.ifCond .eq 37, 3) := by decide +kernel
theorem dX8_finish_129 : decode cX8_finish 129 = .ok (.aload_n 0, 1) := by decide +kernel
theorem dX8_finish_130 : decode cX8_finish 130 = .ok (.iload_n 1, 1) := by decide +kernel
theorem dX8_finish_131 : decode cX8_finish 131 = .ok (.putfield 43, 3) := by decide +kernel
theorem dX8_finish_134 : decode cX8_finish 134 = .ok (.aload_n 0, 1) := by decide +kernel
theorem dX8_finish_135 : decode cX8_finish 135 = .ok (.getfield 32, 3) := by decide +kernel
theorem dX8_finish_138 : decode cX8_finish 138 = .ok (.iconst 0, 1) := by decide +kernel
theorem dX8_finish_139 : decode cX8_finish 139 = .ok (.aload_n 0, 1) := by decide +kernel
theorem dX8_finish_140 : decode cX8_finish 140 = .ok (.getfield 36, 3) := by decide +kernel
theorem dX8_finish_143 : decode cX8_finish 143 = .ok (.iconst 0, 1) := by decide +kernel
theorem dX8_finish_144 : decode cX8_finish 144 = .ok (.iload_n 1, 1) := by decide +kernel
theorem dX8_finish_145 : decode cX8_finish 145 = .ok (.aload_n 0, 1) := by decide +kernel
theorem dX8_finish_146 : decode cX8_finish 146 = .ok (.getfield 32, 3) := by decide +kernel
theorem dX8_finish_149 : decode cX8_finish 149 = .ok (.arraylength, 1) := by decide +kernel
theorem dX8_finish_150 : decode cX8_finish 150 = .ok (.invokestatic 172, 3) := by decide +kernel
theorem dX8_finish_153 : decode cX8_finish 153 = .ok (.invokestatic 178, 3) := by decide +kernel
theorem dX8_finish_156 : decode cX8_finish 156 = .ok (.goto 7, 3) := by decide +kernel
theorem dX8_finish_159 : decode cX8_finish 159 = .ok (.aload_n 0, 1) := by decide +kernel
theorem dX8_finish_160 : decode cX8_finish 160 = .ok (.invokevirtual 184, 3) := by decide +kernel
theorem dX8_finish_163 : decode cX8_finish 163 = .ok (.return_, 1) := by decide +kernel
theorem dX8_hurryingThread_0 : decode cX8_hurryingThread 0 = .ok (.aload_n 0, 1) := by decide +kernel
theorem dX8_hurryingThread_1 : decode cX8_hurryingThread 1 = .ok (.getfield 50, 3) := by decide +kernel
theorem dX8_hurryingThread_4 : decode cX8_hurryingThread 4 = .ok (.iconst 2, 1) := by decide +kernel
theorem dX8_hurryingThread_5 : decode cX8_hurryingThread 5 = .ok (.if_icmp .ne 5, 3) := by decide +kernel
theorem dX8_hurryingThread_8 : decode cX8_hurryingThread 8 = .ok (.iconst (-1), 1) := by decide +kernel
theorem dX8_hurryingThread_9 : decode cX8_hurryingThread 9 = .ok (.ireturn, 1) := by decide +kernel
theorem dX8_hurryingThread_10 : decode cX8_hurryingThread 10 = .ok (.iconst 0, 1) := by decide +kernel
theorem dX8_hurryingThread_11 : decode cX8_hurryingThread 11 = .ok (.istore_n 1, 1) := by decide +kernel
theorem dX8_hurryingThread_12 : decode cX8_hurryingThread 12 = .ok (.iload_n 1, 1) := by decide +kernel
theorem dX8_hurryingThread_13 : decode cX8_hurryingThread 13 = .ok (.aload_n 0, 1) := by decide +kernel
theorem dX8_hurryingThread_14 : decode cX8_hurryingThread 14 = .ok (.getfield 46, 3) := by decide +kernel
theorem dX8_hurryingThread_17 : decode cX8_hurryingThread 17 = .ok (.getfield 98, 3) := by decide +kernel
theorem dX8_hurryingThread_20 : decode cX8_hurryingThread 20 = .ok (.getfield 121, 3) := by decide +kernel
theorem dX8_hurryingThread_23 : decode cX8_hurryingThread 23 = .ok (.if_icmp .ge 22, 3) := by decide +kernel
theorem dX8_hurryingThread_26 : decode cX8_hurryingThread 26 = .ok (.aload_n 0, 1) := by decide +kernel
theorem dX8_hurryingThread_27 : decode cX8_hurryingThread 27 = .ok (.getfield 12, 3) := by decide +kernel
theorem dX8_hurryingThread_30 : decode cX8_hurryingThread 30 = .ok (.iload_n 1, 1) := by decide +kernel
theorem dX8_hurryingThread_31 : decode cX8_hurryingThread 31 = .ok (.invokevirtual 132, 3) := by decide +kernel
theorem dX8_hurryingThread_34 : decode cX8_hurryingThread 34 = .ok (.ifCond .eq 5, 3) := by decide +kernel
theorem dX8_hurryingThread_37 : decode cX8_hurryingThread 37 = .ok (.iload_n 1, 1) := by decide +kernel
theorem dX8_hurryingThread_38 : decode cX8_hurryingThread 38 = .ok (.ireturn, 1) := by decide +kernel
theorem dX8_hurryingThread_39 : decode cX8_hurryingThread 39 = .ok (.iinc 1 1, 3) := by decide +kernel
theorem dX8_hurryingThread_42 : decode cX8_hurryingThread 42 = .ok (.goto (-30), 3) := by decide +kernel
theorem dX8_hurryingThread_45 : decode cX8_hurryingThread 45 = .ok (.iconst (-1), 1) := by decide +kernel
theorem dX8_hurryingThread_46 : decode cX8_hurryingThread 46 = .ok (.ireturn, 1) := by decide +kernel
theorem dX8_visit_0 : decode cX8_visit 0 = .ok (.aload_n 0, 1) := by decide +kernel
theorem dX8_visit_1 : decode cX8_visit 1 = .ok (.getfield 59, 3) := by decide +kernel
theorem dX8_visit_4 : decode cX8_visit 4 = .ok (.ifCond .ne 24, 3) := by decide +kernel
theorem dX8_visit_7 : decode cX8_visit 7 = .ok (.iload 7, 2) := by decide +kernel
theorem dX8_visit_9 : decode cX8_visit 9 = .ok (.bipush 16, 2) := by decide +kernel
theorem dX8_visit_11 : decode cX8_visit 11 = .ok (.if_icmp .gt 17, 3) := by decide +kernel
theorem dX8_visit_14 : decode cX8_visit 14 = .ok (.aload_n 0, 1) := by decide +kernel
theorem dX8_visit_15 : decode cX8_visit 15 = .ok (.getfield 21, 3) := by decide +kernel
theorem dX8_visit_18 : decode cX8_visit 18 = .ok (.lload_n 1, 1) := by decide +kernel
theorem dX8_visit_19 : decode cX8_visit 19 = .ok (.lload_n 3, 1) := by decide +kernel
theorem dX8_visit_20 : decode cX8_visit 20 = .ok (.lload 5, 2) := by decide +kernel
theorem dX8_visit_22 : decode cX8_visit 22 = .ok (.invokevirtual 105, 3) := by decide +kernel
theorem dX8_visit_25 : decode cX8_visit 25 = .ok (.ifCond .ne 4, 3) := by decide +kernel
theorem dX8_visit_28 : decode cX8_visit 28 = .ok (.return_, 1) := by decide +kernel
theorem dX8_visit_29 : decode cX8_visit 29 = .ok (.aload_n 0, 1) := by decide +kernel
theorem dX8_visit_30 : decode cX8_visit 30 = .ok (.getfield 12, 3) := by decide +kernel
theorem dX8_visit_33 : decode cX8_visit 33 = .ok (.lload_n 1, 1) := by decide +kernel
theorem dX8_visit_34 : decode cX8_visit 34 = .ok (.lload_n 3, 1) := by decide +kernel
theorem dX8_visit_35 : decode cX8_visit 35 = .ok (.lload 5, 2) := by decide +kernel
theorem dX8_visit_37 : decode cX8_visit 37 = .ok (.invokevirtual 109, 3) := by decide +kernel
theorem dX8_visit_40 : decode cX8_visit 40 = .ok (.aload_n 0, 1) := by decide +kernel
theorem dX8_visit_41 : decode cX8_visit 41 = .ok (.invokevirtual 113, 3) := by decide +kernel
theorem dX8_visit_44 : decode cX8_visit 44 = .ok (.istore 8, 2) := by decide +kernel
theorem dX8_visit_46 : decode cX8_visit 46 = .ok (.iload 8, 2) := by decide +kernel
theorem dX8_visit_48 : decode cX8_visit 48 = .ok (.iconst (-1), 1) := by decide +kernel
theorem dX8_visit_49 : decode cX8_visit 49 = .ok (.if_icmp .eq 17, 3) := by decide +kernel
theorem dX8_visit_52 : decode cX8_visit 52 = .ok (.aload_n 0, 1) := by decide +kernel
theorem dX8_visit_53 : decode cX8_visit 53 = .ok (.lload_n 1, 1) := by decide +kernel
theorem dX8_visit_54 : decode cX8_visit 54 = .ok (.lload_n 3, 1) := by decide +kernel
theorem dX8_visit_55 : decode cX8_visit 55 = .ok (.lload 5, 2) := by decide +kernel
theorem dX8_visit_57 : decode cX8_visit 57 = .ok (.iload 8, 2) := by decide +kernel
theorem dX8_visit_59 : decode cX8_visit 59 = .ok (.iload 7, 2) := by decide +kernel
theorem dX8_visit_61 : decode cX8_visit 61 = .ok (.invokevirtual 117, 3) := by decide +kernel
theorem dX8_visit_64 : decode cX8_visit 64 = .ok (.pop, 1) := by decide +kernel
theorem dX8_visit_65 : decode cX8_visit 65 = .ok (.return_, 1) := by decide +kernel
theorem dX8_visit_66 : decode cX8_visit 66 = .ok (.iconst 0, 1) := by decide +kernel
theorem dX8_visit_67 : decode cX8_visit 67 = .ok (.istore 9, 2) := by decide +kernel
theorem dX8_visit_69 : decode cX8_visit 69 = .ok (.iconst 0, 1) := by decide +kernel
theorem dX8_visit_70 : decode cX8_visit 70 = .ok (.istore 10, 2) := by decide +kernel
theorem dX8_visit_72 : decode cX8_visit 72 = .ok (.iload 10, 2) := by decide +kernel
theorem dX8_visit_74 : decode cX8_visit 74 = .ok (.aload_n 0, 1) := by decide +kernel
theorem dX8_visit_75 : decode cX8_visit 75 = .ok (.getfield 46, 3) := by decide +kernel
theorem dX8_visit_78 : decode cX8_visit 78 = .ok (.getfield 98, 3) := by decide +kernel
theorem dX8_visit_81 : decode cX8_visit 81 = .ok (.getfield 121, 3) := by decide +kernel
theorem dX8_visit_84 : decode cX8_visit 84 = .ok (.if_icmp .ge 59, 3) := by decide +kernel
theorem dX8_visit_87 : decode cX8_visit 87 = .ok (.aload_n 0, 1) := by decide +kernel
theorem dX8_visit_88 : decode cX8_visit 88 = .ok (.lload_n 1, 1) := by decide +kernel
theorem dX8_visit_89 : decode cX8_visit 89 = .ok (.lload_n 3, 1) := by decide +kernel
theorem dX8_visit_90 : decode cX8_visit 90 = .ok (.lload 5, 2) := by decide +kernel
theorem dX8_visit_92 : decode cX8_visit 92 = .ok (.iload 10, 2) := by decide +kernel
theorem dX8_visit_94 : decode cX8_visit 94 = .ok (.iload 7, 2) := by decide +kernel
theorem dX8_visit_96 : decode cX8_visit 96 = .ok (.invokevirtual 125, 3) := by decide +kernel
theorem dX8_visit_99 : decode cX8_visit 99 = .ok (.istore 11, 2) := by decide +kernel
theorem dX8_visit_101 : decode cX8_visit 101 = .ok (.aload_n 0, 1) := by decide +kernel
theorem dX8_visit_102 : decode cX8_visit 102 = .ok (.lload_n 1, 1) := by decide +kernel
theorem dX8_visit_103 : decode cX8_visit 103 = .ok (.lload_n 3, 1) := by decide +kernel
theorem dX8_visit_104 : decode cX8_visit 104 = .ok (.lload 5, 2) := by decide +kernel
theorem dX8_visit_106 : decode cX8_visit 106 = .ok (.iload 10, 2) := by decide +kernel
theorem dX8_visit_108 : decode cX8_visit 108 = .ok (.iload 7, 2) := by decide +kernel
theorem dX8_visit_110 : decode cX8_visit 110 = .ok (.invokevirtual 117, 3) := by decide +kernel
theorem dX8_visit_113 : decode cX8_visit 113 = .ok (.istore 12, 2) := by decide +kernel
theorem dX8_visit_115 : decode cX8_visit 115 = .ok (.iload 9, 2) := by decide +kernel
theorem dX8_visit_117 : decode cX8_visit 117 = .ok (.ifCond .ne 13, 3) := by decide +kernel
theorem dX8_visit_120 : decode cX8_visit 120 = .ok (.iload 11, 2) := by decide +kernel
theorem dX8_visit_122 : decode cX8_visit 122 = .ok (.ifCond .ne 8, 3) := by decide +kernel
theorem dX8_visit_125 : decode cX8_visit 125 = .ok (.iload 12, 2) := by decide +kernel
theorem dX8_visit_127 : decode cX8_visit 127 = .ok (.ifCond .eq 7, 3) := by decide +kernel
theorem dX8_visit_130 : decode cX8_visit 130 = .ok (.iconst 1, 1) := by decide +kernel
theorem dX8_visit_131 : decode cX8_visit 131 = .ok (.goto 4, 3) := by decide +kernel
theorem dX8_visit_134 : decode cX8_visit 134 = .ok (.iconst 0, 1) := by decide +kernel
theorem dX8_visit_135 : decode cX8_visit 135 = .ok (.istore 9, 2) := by decide +kernel
theorem dX8_visit_137 : decode cX8_visit 137 = .ok (.iinc 10 1, 3) := by decide +kernel
theorem dX8_visit_140 : decode cX8_visit 140 = .ok (.goto (-68), 3) := by decide +kernel
theorem dX8_visit_143 : decode cX8_visit 143 = .ok (.iload 9, 2) := by decide +kernel
theorem dX8_visit_145 : decode cX8_visit 145 = .ok (.ifCond .ne 20, 3) := by decide +kernel
theorem dX8_visit_148 : decode cX8_visit 148 = .ok (.aload_n 0, 1) := by decide +kernel
theorem dX8_visit_149 : decode cX8_visit 149 = .ok (.getfield 12, 3) := by decide +kernel
theorem dX8_visit_152 : decode cX8_visit 152 = .ok (.lload_n 1, 1) := by decide +kernel
theorem dX8_visit_153 : decode cX8_visit 153 = .ok (.lload_n 3, 1) := by decide +kernel
theorem dX8_visit_154 : decode cX8_visit 154 = .ok (.lload 5, 2) := by decide +kernel
theorem dX8_visit_156 : decode cX8_visit 156 = .ok (.invokevirtual 109, 3) := by decide +kernel
theorem dX8_visit_159 : decode cX8_visit 159 = .ok (.aload_n 0, 1) := by decide +kernel
theorem dX8_visit_160 : decode cX8_visit 160 = .ok (.iload 7, 2) := by decide +kernel
theorem dX8_visit_162 : decode cX8_visit 162 = .ok (.invokevirtual 128, 3) := by decide +kernel
theorem dX8_visit_165 : decode cX8_visit 165 = .ok (.return_, 1) := by decide +kernel
theorem dX8_listOutcomes_0 : decode cX8_listOutcomes 0 = .ok (.aload_n 0, 1) := by decide +kernel
theorem dX8_listOutcomes_1 : decode cX8_listOutcomes 1 = .ok (.getfield 28, 3) := by decide +kernel
theorem dX8_listOutcomes_4 : decode cX8_listOutcomes 4 = .ok (.invokevirtual 67, 3) := by decide +kernel
theorem dX8_listOutcomes_7 : decode cX8_listOutcomes 7 = .ok (.aload_n 0, 1) := by decide +kernel
theorem dX8_listOutcomes_8 : decode cX8_listOutcomes 8 = .ok (.aload_n 1, 1) := by decide +kernel
theorem dX8_listOutcomes_9 : decode cX8_listOutcomes 9 = .ok (.iload_n 2, 1) := by decide +kernel
theorem dX8_listOutcomes_10 : decode cX8_listOutcomes 10 = .ok (.aload_n 1, 1) := by decide +kernel
theorem dX8_listOutcomes_11 : decode cX8_listOutcomes 11 = .ok (.iconst 1, 1) := by decide +kernel
theorem dX8_listOutcomes_12 : decode cX8_listOutcomes 12 = .ok (.invokevirtual 70, 3) := by decide +kernel
theorem dX8_listOutcomes_15 : decode cX8_listOutcomes 15 = .ok (.iconst 0, 1) := by decide +kernel
theorem dX8_listOutcomes_16 : decode cX8_listOutcomes 16 = .ok (.invokevirtual 76, 3) := by decide +kernel
theorem dX8_listOutcomes_19 : decode cX8_listOutcomes 19 = .ok (.aload_n 0, 1) := by decide +kernel
theorem dX8_listOutcomes_20 : decode cX8_listOutcomes 20 = .ok (.aload_n 0, 1) := by decide +kernel
theorem dX8_listOutcomes_21 : decode cX8_listOutcomes 21 = .ok (.getfield 12, 3) := by decide +kernel
theorem dX8_listOutcomes_24 : decode cX8_listOutcomes 24 = .ok (.getfield 80, 3) := by decide +kernel
theorem dX8_listOutcomes_27 : decode cX8_listOutcomes 27 = .ok (.aload_n 0, 1) := by decide +kernel
theorem dX8_listOutcomes_28 : decode cX8_listOutcomes 28 = .ok (.getfield 12, 3) := by decide +kernel
theorem dX8_listOutcomes_31 : decode cX8_listOutcomes 31 = .ok (.getfield 83, 3) := by decide +kernel
theorem dX8_listOutcomes_34 : decode cX8_listOutcomes 34 = .ok (.aload_n 0, 1) := by decide +kernel
theorem dX8_listOutcomes_35 : decode cX8_listOutcomes 35 = .ok (.getfield 12, 3) := by decide +kernel
theorem dX8_listOutcomes_38 : decode cX8_listOutcomes 38 = .ok (.getfield 86, 3) := by decide +kernel
theorem dX8_listOutcomes_41 : decode cX8_listOutcomes 41 = .ok (.iconst 0, 1) := by decide +kernel
theorem dX8_listOutcomes_42 : decode cX8_listOutcomes 42 = .ok (.invokevirtual 89, 3) := by decide +kernel
theorem dX8_listOutcomes_45 : decode cX8_listOutcomes 45 = .ok (.aload_n 0, 1) := by decide +kernel
theorem dX8_listOutcomes_46 : decode cX8_listOutcomes 46 = .ok (.getfield 28, 3) := by decide +kernel
theorem dX8_listOutcomes_49 : decode cX8_listOutcomes 49 = .ok (.invokevirtual 93, 3) := by decide +kernel
theorem dX8_listOutcomes_52 : decode cX8_listOutcomes 52 = .ok (.areturn, 1) := by decide +kernel
theorem dX8_findRaces_0 : decode cX8_findRaces 0 = .ok (.aload_n 0, 1) := by decide +kernel
theorem dX8_findRaces_1 : decode cX8_findRaces 1 = .ok (.lconst 0, 1) := by decide +kernel
theorem dX8_findRaces_2 : decode cX8_findRaces 2 = .ok (.putfield 63, 3) := by decide +kernel
theorem dX8_findRaces_5 : decode cX8_findRaces 5 = .ok (.aload_n 0, 1) := by decide +kernel
theorem dX8_findRaces_6 : decode cX8_findRaces 6 = .ok (.aload_n 1, 1) := by decide +kernel
theorem dX8_findRaces_7 : decode cX8_findRaces 7 = .ok (.iconst 3, 1) := by decide +kernel
theorem dX8_findRaces_8 : decode cX8_findRaces 8 = .ok (.aload_n 1, 1) := by decide +kernel
theorem dX8_findRaces_9 : decode cX8_findRaces 9 = .ok (.iconst 1, 1) := by decide +kernel
theorem dX8_findRaces_10 : decode cX8_findRaces 10 = .ok (.invokevirtual 70, 3) := by decide +kernel
theorem dX8_findRaces_13 : decode cX8_findRaces 13 = .ok (.iconst 3, 1) := by decide +kernel
theorem dX8_findRaces_14 : decode cX8_findRaces 14 = .ok (.invokevirtual 76, 3) := by decide +kernel
theorem dX8_findRaces_17 : decode cX8_findRaces 17 = .ok (.aload_n 0, 1) := by decide +kernel
theorem dX8_findRaces_18 : decode cX8_findRaces 18 = .ok (.aload_n 0, 1) := by decide +kernel
theorem dX8_findRaces_19 : decode cX8_findRaces 19 = .ok (.getfield 12, 3) := by decide +kernel
theorem dX8_findRaces_22 : decode cX8_findRaces 22 = .ok (.getfield 80, 3) := by decide +kernel
theorem dX8_findRaces_25 : decode cX8_findRaces 25 = .ok (.aload_n 0, 1) := by decide +kernel
theorem dX8_findRaces_26 : decode cX8_findRaces 26 = .ok (.getfield 12, 3) := by decide +kernel
theorem dX8_findRaces_29 : decode cX8_findRaces 29 = .ok (.getfield 83, 3) := by decide +kernel
theorem dX8_findRaces_32 : decode cX8_findRaces 32 = .ok (.aload_n 0, 1) := by decide +kernel
theorem dX8_findRaces_33 : decode cX8_findRaces 33 = .ok (.getfield 12, 3) := by decide +kernel
theorem dX8_findRaces_36 : decode cX8_findRaces 36 = .ok (.getfield 86, 3) := by decide +kernel
theorem dX8_findRaces_39 : decode cX8_findRaces 39 = .ok (.iconst 0, 1) := by decide +kernel
theorem dX8_findRaces_40 : decode cX8_findRaces 40 = .ok (.invokevirtual 89, 3) := by decide +kernel
theorem dX8_findRaces_43 : decode cX8_findRaces 43 = .ok (.aload_n 0, 1) := by decide +kernel
theorem dX8_findRaces_44 : decode cX8_findRaces 44 = .ok (.getfield 63, 3) := by decide +kernel
theorem dX8_findRaces_47 : decode cX8_findRaces 47 = .ok (.lreturn, 1) := by decide +kernel
theorem dX8_witnessThread_0 : decode cX8_witnessThread 0 = .ok (.iload_n 1, 1) := by decide +kernel
theorem dX8_witnessThread_1 : decode cX8_witnessThread 1 = .ok (.ifCond .lt 29, 3) := by decide +kernel
theorem dX8_witnessThread_4 : decode cX8_witnessThread 4 = .ok (.iload_n 1, 1) := by decide +kernel
theorem dX8_witnessThread_5 : decode cX8_witnessThread 5 = .ok (.aload_n 0, 1) := by decide +kernel
theorem dX8_witnessThread_6 : decode cX8_witnessThread 6 = .ok (.getfield 39, 3) := by decide +kernel
theorem dX8_witnessThread_9 : decode cX8_witnessThread 9 = .ok (.if_icmp .ge 21, 3) := by decide +kernel
theorem dX8_witnessThread_12 : decode cX8_witnessThread 12 = .ok (.iload_n 1, 1) := by decide +kernel
theorem dX8_witnessThread_13 : decode cX8_witnessThread 13 = .ok (.aload_n 0, 1) := by decide +kernel
theorem dX8_witnessThread_14 : decode cX8_witnessThread 14 = .ok (.getfield 36, 3) := by decide +kernel
theorem dX8_witnessThread_17 : decode cX8_witnessThread 17 = .ok (.arraylength, 1) := by decide +kernel
theorem dX8_witnessThread_18 : decode cX8_witnessThread 18 = .ok (.if_icmp .ge 12, 3) := by decide +kernel
theorem dX8_witnessThread_21 : decode cX8_witnessThread 21 = .ok (.aload_n 0, 1) := by decide +kernel
theorem dX8_witnessThread_22 : decode cX8_witnessThread 22 = .ok (.getfield 36, 3) := by decide +kernel
theorem dX8_witnessThread_25 : decode cX8_witnessThread 25 = .ok (.iload_n 1, 1) := by decide +kernel
theorem dX8_witnessThread_26 : decode cX8_witnessThread 26 = .ok (.iaload, 1) := by decide +kernel
theorem dX8_witnessThread_27 : decode cX8_witnessThread 27 = .ok (.goto 4, 3) := by decide +kernel
theorem dX8_witnessThread_30 : decode cX8_witnessThread 30 = .ok (.iconst (-1), 1) := by decide +kernel
theorem dX8_witnessThread_31 : decode cX8_witnessThread 31 = .ok (.ireturn, 1) := by decide +kernel
theorem dX8_findWitness_0 : decode cX8_findWitness 0 = .ok (.aload_n 0, 1) := by decide +kernel
theorem dX8_findWitness_1 : decode cX8_findWitness 1 = .ok (.aload_n 2, 1) := by decide +kernel
theorem dX8_findWitness_2 : decode cX8_findWitness 2 = .ok (.putfield 53, 3) := by decide +kernel
theorem dX8_findWitness_5 : decode cX8_findWitness 5 = .ok (.aload_n 0, 1) := by decide +kernel
theorem dX8_findWitness_6 : decode cX8_findWitness 6 = .ok (.bipush 17, 2) := by decide +kernel
theorem dX8_findWitness_8 : decode cX8_findWitness 8 = .ok (.putfield 43, 3) := by decide +kernel
theorem dX8_findWitness_11 : decode cX8_findWitness 11 = .ok (.aload_n 0, 1) := by decide +kernel
theorem dX8_findWitness_12 : decode cX8_findWitness 12 = .ok (.aload_n 1, 1) := by decide +kernel
theorem dX8_findWitness_13 : decode cX8_findWitness 13 = .ok (.iconst 0, 1) := by decide +kernel
theorem dX8_findWitness_14 : decode cX8_findWitness 14 = .ok (.iconst 0, 1) := by decide +kernel
theorem dX8_findWitness_15 : decode cX8_findWitness 15 = .ok (.iconst 2, 1) := by decide +kernel
theorem dX8_findWitness_16 : decode cX8_findWitness 16 = .ok (.invokevirtual 76, 3) := by decide +kernel
theorem dX8_findWitness_19 : decode cX8_findWitness 19 = .ok (.aload_n 0, 1) := by decide +kernel
theorem dX8_findWitness_20 : decode cX8_findWitness 20 = .ok (.aload_n 0, 1) := by decide +kernel
theorem dX8_findWitness_21 : decode cX8_findWitness 21 = .ok (.getfield 12, 3) := by decide +kernel
theorem dX8_findWitness_24 : decode cX8_findWitness 24 = .ok (.getfield 80, 3) := by decide +kernel
theorem dX8_findWitness_27 : decode cX8_findWitness 27 = .ok (.aload_n 0, 1) := by decide +kernel
theorem dX8_findWitness_28 : decode cX8_findWitness 28 = .ok (.getfield 12, 3) := by decide +kernel
theorem dX8_findWitness_31 : decode cX8_findWitness 31 = .ok (.getfield 83, 3) := by decide +kernel
theorem dX8_findWitness_34 : decode cX8_findWitness 34 = .ok (.aload_n 0, 1) := by decide +kernel
theorem dX8_findWitness_35 : decode cX8_findWitness 35 = .ok (.getfield 12, 3) := by decide +kernel
theorem dX8_findWitness_38 : decode cX8_findWitness 38 = .ok (.getfield 86, 3) := by decide +kernel
theorem dX8_findWitness_41 : decode cX8_findWitness 41 = .ok (.iconst 0, 1) := by decide +kernel
theorem dX8_findWitness_42 : decode cX8_findWitness 42 = .ok (.invokevirtual 89, 3) := by decide +kernel
theorem dX8_findWitness_45 : decode cX8_findWitness 45 = .ok (.aload_n 0, 1) := by decide +kernel
theorem dX8_findWitness_46 : decode cX8_findWitness 46 = .ok (.getfield 43, 3) := by decide +kernel
theorem dX8_findWitness_49 : decode cX8_findWitness 49 = .ok (.bipush 16, 2) := by decide +kernel
theorem dX8_findWitness_51 : decode cX8_findWitness 51 = .ok (.if_icmp .le 5, 3) := by decide +kernel
theorem dX8_findWitness_54 : decode cX8_findWitness 54 = .ok (.iconst (-1), 1) := by decide +kernel
theorem dX8_findWitness_55 : decode cX8_findWitness 55 = .ok (.ireturn, 1) := by decide +kernel
theorem dX8_findWitness_56 : decode cX8_findWitness 56 = .ok (.aload_n 0, 1) := by decide +kernel
theorem dX8_findWitness_57 : decode cX8_findWitness 57 = .ok (.aload_n 0, 1) := by decide +kernel
theorem dX8_findWitness_58 : decode cX8_findWitness 58 = .ok (.getfield 43, 3) := by decide +kernel
theorem dX8_findWitness_61 : decode cX8_findWitness 61 = .ok (.putfield 39, 3) := by decide +kernel
theorem dX8_findWitness_64 : decode cX8_findWitness 64 = .ok (.aload_n 0, 1) := by decide +kernel
theorem dX8_findWitness_65 : decode cX8_findWitness 65 = .ok (.getfield 39, 3) := by decide +kernel
theorem dX8_findWitness_68 : decode cX8_findWitness 68 = .ok (.ireturn, 1) := by decide +kernel
theorem dX8_staysWithin_0 : decode cX8_staysWithin 0 = .ok (.aload_n 0, 1) := by decide +kernel
theorem dX8_staysWithin_1 : decode cX8_staysWithin 1 = .ok (.aload 4, 2) := by decide +kernel
theorem dX8_staysWithin_3 : decode cX8_staysWithin 3 = .ok (.putfield 56, 3) := by decide +kernel
theorem dX8_staysWithin_6 : decode cX8_staysWithin 6 = .ok (.aload_n 0, 1) := by decide +kernel
theorem dX8_staysWithin_7 : decode cX8_staysWithin 7 = .ok (.aload_n 1, 1) := by decide +kernel
theorem dX8_staysWithin_8 : decode cX8_staysWithin 8 = .ok (.iload_n 2, 1) := by decide +kernel
theorem dX8_staysWithin_9 : decode cX8_staysWithin 9 = .ok (.aload_n 1, 1) := by decide +kernel
theorem dX8_staysWithin_10 : decode cX8_staysWithin 10 = .ok (.iconst 1, 1) := by decide +kernel
theorem dX8_staysWithin_11 : decode cX8_staysWithin 11 = .ok (.invokevirtual 70, 3) := by decide +kernel
theorem dX8_staysWithin_14 : decode cX8_staysWithin 14 = .ok (.iload_n 3, 1) := by decide +kernel
theorem dX8_staysWithin_15 : decode cX8_staysWithin 15 = .ok (.ior, 1) := by decide +kernel
theorem dX8_staysWithin_16 : decode cX8_staysWithin 16 = .ok (.iconst 1, 1) := by decide +kernel
theorem dX8_staysWithin_17 : decode cX8_staysWithin 17 = .ok (.invokevirtual 76, 3) := by decide +kernel
theorem dX8_staysWithin_20 : decode cX8_staysWithin 20 = .ok (.aload_n 0, 1) := by decide +kernel
theorem dX8_staysWithin_21 : decode cX8_staysWithin 21 = .ok (.aload_n 0, 1) := by decide +kernel
theorem dX8_staysWithin_22 : decode cX8_staysWithin 22 = .ok (.getfield 12, 3) := by decide +kernel
theorem dX8_staysWithin_25 : decode cX8_staysWithin 25 = .ok (.getfield 80, 3) := by decide +kernel
theorem dX8_staysWithin_28 : decode cX8_staysWithin 28 = .ok (.aload_n 0, 1) := by decide +kernel
theorem dX8_staysWithin_29 : decode cX8_staysWithin 29 = .ok (.getfield 12, 3) := by decide +kernel
theorem dX8_staysWithin_32 : decode cX8_staysWithin 32 = .ok (.getfield 83, 3) := by decide +kernel
theorem dX8_staysWithin_35 : decode cX8_staysWithin 35 = .ok (.aload_n 0, 1) := by decide +kernel
theorem dX8_staysWithin_36 : decode cX8_staysWithin 36 = .ok (.getfield 12, 3) := by decide +kernel
theorem dX8_staysWithin_39 : decode cX8_staysWithin 39 = .ok (.getfield 86, 3) := by decide +kernel
theorem dX8_staysWithin_42 : decode cX8_staysWithin 42 = .ok (.iconst 0, 1) := by decide +kernel
theorem dX8_staysWithin_43 : decode cX8_staysWithin 43 = .ok (.invokevirtual 89, 3) := by decide +kernel
theorem dX8_staysWithin_46 : decode cX8_staysWithin 46 = .ok (.aload_n 0, 1) := by decide +kernel
theorem dX8_staysWithin_47 : decode cX8_staysWithin 47 = .ok (.getfield 59, 3) := by decide +kernel
theorem dX8_staysWithin_50 : decode cX8_staysWithin 50 = .ok (.ifCond .ne 7, 3) := by decide +kernel
theorem dX8_staysWithin_53 : decode cX8_staysWithin 53 = .ok (.iconst 1, 1) := by decide +kernel
theorem dX8_staysWithin_54 : decode cX8_staysWithin 54 = .ok (.goto 4, 3) := by decide +kernel
theorem dX8_staysWithin_57 : decode cX8_staysWithin 57 = .ok (.iconst 0, 1) := by decide +kernel
theorem dX8_staysWithin_58 : decode cX8_staysWithin 58 = .ok (.ireturn, 1) := by decide +kernel
theorem kn_X8_init : Kn yX8_init cX8_init 1 none 0 := ⟨wm_171, wm_172, by decide +kernel, by decide⟩
theorem kn_X8_begin : Kn yX8_begin cX8_begin 5 none 4 := ⟨wm_275, wm_172, by decide +kernel, by decide⟩
theorem kn_X8_doActions : Kn yX8_doActions cX8_doActions 11 (some .boolean) 5 := ⟨wm_351, wm_172, by decide +kernel, by decide⟩
theorem kn_X8_doEmptying : Kn yX8_doEmptying cX8_doEmptying 9 (some .boolean) 5 := ⟨wm_369, wm_172, by decide +kernel, by decide⟩
theorem kn_X8_noteOrder : Kn yX8_noteOrder cX8_noteOrder 5 none 0 := ⟨wm_386, wm_172, by decide +kernel, by decide⟩
theorem kn_X8_mayRace : Kn yX8_mayRace cX8_mayRace 6 (some .boolean) 2 := ⟨wm_392, wm_172, by decide +kernel, by decide⟩
theorem kn_X8_noteRaces : Kn yX8_noteRaces cX8_noteRaces 4 none 0 := ⟨wm_399, wm_172, by decide +kernel, by decide⟩
theorem kn_X8_finish : Kn yX8_finish cX8_finish 3 none 1 := ⟨wm_403, wm_172, by decide +kernel, by decide⟩
theorem kn_X8_hurryingThread : Kn yX8_hurryingThread cX8_hurryingThread 2 (some .int) 0 := ⟨wm_424, wm_172, by decide +kernel, by decide⟩
theorem kn_X8_visit : Kn yX8_visit cX8_visit 13 none 4 := ⟨wm_446, wm_172, by decide +kernel, by decide⟩
theorem kn_X8_listOutcomes : Kn yX8_listOutcomes cX8_listOutcomes 3 (some (.array .int)) 2 := ⟨wm_462, wm_172, by decide +kernel, by decide⟩
theorem kn_X8_findRaces : Kn yX8_findRaces cX8_findRaces 2 (some .long) 1 := ⟨wm_485, wm_172, by decide +kernel, by decide⟩
theorem kn_X8_witnessThread : Kn yX8_witnessThread cX8_witnessThread 2 (some .int) 1 := ⟨wm_492, wm_172, by decide +kernel, by decide⟩
theorem kn_X8_findWitness : Kn yX8_findWitness cX8_findWitness 3 (some .int) 2 := ⟨wm_1155, wm_172, by decide +kernel, by decide⟩
theorem kn_X8_staysWithin : Kn yX8_staysWithin cX8_staysWithin 5 (some .boolean) 4 := ⟨wm_1156, wm_172, by decide +kernel, by decide⟩
/-! ===== LitmusHouse$Search.<init>()V ===== -/
def b_X8_init_0 (a0 : Nat) (h : AH) : Option (AH) :=
  (ok_h a0).bind fun x1 => (ok_h (hp_n h)).bind fun x3 => (f_X2_init (hp_n h) (st_n h 2 9)).bind fun h4 => (p_r h4 a0 8 0 (hp_n h)).bind fun h5 => (ok_h (hp_n h5)).bind fun x7 => (f_X9_init (hp_n h5) (st_n h5 9 6)).bind fun h8 => (p_r h8 a0 8 1 (hp_n h5)).bind fun h9 => (ok_h (hp_n h9)).bind fun x11 => (f_X3_init (hp_n h9) (st_n h9 3 2)).bind fun h12 => (p_r h12 a0 8 2 (hp_n h9)).bind fun h13 => (n_a h13 100 (17 : Int32)).bind fun h14 => (p_r h14 a0 8 3 (hp_n h13)).bind fun h15 => (n_a h15 100 (17 : Int32)).bind fun h16 => (p_r h16 a0 8 4 (hp_n h15)).bind fun h17 => (p_i h17 a0 8 5 (0 : Int32)).bind fun h18 => (p_i h18 a0 8 6 (0 : Int32)).bind fun h19 => (p_r h19 a0 8 7 0).bind fun h20 => (p_i h20 a0 8 8 (0 : Int32)).bind fun h21 => (p_r h21 a0 8 9 0).bind fun h22 => (p_r h22 a0 8 10 0).bind fun h23 => (p_z h23 a0 8 11 (0 : Int32)).bind fun h24 => (p_j h24 a0 8 12 (0 : Int64)).bind fun h25 => some h25
set_option maxHeartbeats 4000000 in
set_option maxRecDepth 100000 in
theorem q_X8_init_0 {a0 : Nat} {h hE : AH} (hf : b_X8_init_0 a0 h = some hE) : JD cX8_init 1 RX8 "<init>" none (4) 0 [(0, .inr (.inr (a0)))] [] h hE none := by
  unfold b_X8_init_0 at hf
  obtain ⟨x1, e1, hf⟩ := bnd hf
  have m2 := nn_o (h := h) (c := 2) (n := 9)
  obtain ⟨x3, e3, hf⟩ := bnd hf
  obtain ⟨h4, e4, hf⟩ := bnd hf
  have k4 := c_X2_init e4
  have m4 := (k4 default_g).1
  obtain ⟨h5, e5, hf⟩ := bnd hf
  have m5 := nn_pr e5
  have m6 := nn_o (h := h5) (c := 9) (n := 6)
  obtain ⟨x7, e7, hf⟩ := bnd hf
  obtain ⟨h8, e8, hf⟩ := bnd hf
  have k8 := c_X9_init e8
  have m8 := (k8 default_g).1
  obtain ⟨h9, e9, hf⟩ := bnd hf
  have m9 := nn_pr e9
  have m10 := nn_o (h := h9) (c := 3) (n := 2)
  obtain ⟨x11, e11, hf⟩ := bnd hf
  obtain ⟨h12, e12, hf⟩ := bnd hf
  have k12 := c_X3_init e12
  have m12 := (k12 default_g).1
  obtain ⟨h13, e13, hf⟩ := bnd hf
  have m13 := nn_pr e13
  obtain ⟨h14, e14, hf⟩ := bnd hf
  have m14 := nn_n e14
  obtain ⟨h15, e15, hf⟩ := bnd hf
  have m15 := nn_pr e15
  obtain ⟨h16, e16, hf⟩ := bnd hf
  have m16 := nn_n e16
  obtain ⟨h17, e17, hf⟩ := bnd hf
  have m17 := nn_pr e17
  obtain ⟨h18, e18, hf⟩ := bnd hf
  have m18 := nn_pi e18
  obtain ⟨h19, e19, hf⟩ := bnd hf
  have m19 := nn_pi e19
  obtain ⟨h20, e20, hf⟩ := bnd hf
  have m20 := nn_pr e20
  obtain ⟨h21, e21, hf⟩ := bnd hf
  have m21 := nn_pi e21
  obtain ⟨h22, e22, hf⟩ := bnd hf
  have m22 := nn_pr e22
  obtain ⟨h23, e23, hf⟩ := bnd hf
  have m23 := nn_pr e23
  obtain ⟨h24, e24, hf⟩ := bnd hf
  have m24 := nn_pz e24
  obtain ⟨h25, e25, hf⟩ := bnd hf
  have m25 := nn_pj e25
  have hh := Option.some.inj hf
  subst hh
  have mE : hp_n h25 ≤ hp_n h25 ∧ hp_s h25 ≤ hp_s h25 := ⟨Nat.le_refl _, Nat.le_refl _⟩
  refine ⟨by omega, fun X g K ok nmx lev hK en => ?_⟩
  refine tj_aload_n ok 0 dX8_init_0 rfl rfl ?_
  refine tj_objInit (rest := ([] : List TV).map (vl g)) ok lev (by omega) (of_if e1).1 wm_173 wm_75 wm_obj (rs_ok (Nat.le_of_ble_eq_true rfl)) dX8_init_1 ?_
  refine tj_aload_n ok 0 dX8_init_4 rfl rfl ?_
  refine tj_new ok fcX2 wm_174 wm_175 wm_142 dX8_init_5 nfX2 ndX2 (CaX.of en (by omega)) ?_
  refine tj_dupa ok dX8_init_8 ?_
  refine tj_callN (rest := ([.inr (.inr (hp_n h)), .inr (.inr (a0))] : List TV).map (vl g)) (as := []) (i := 4) ok lev (by omega) (of_if e3).1 (k4 g) (CaX.of en (by omega)) kn_X2_init rfl rfl wm_176 (rs_ok (Nat.le_of_ble_eq_true rfl)) rfl dX8_init_9 ?_
  refine tj_putR (k := 0) ok fcX8 (by decide) wm_177 rfl (Or.inr ⟨nmx, rfl⟩) (Or.inl ⟨_, rfl⟩) dX8_init_12 e5 ?_
  refine tj_aload_n ok 0 dX8_init_15 rfl rfl ?_
  refine tj_new ok fcX9 wm_178 wm_179 wm_162 dX8_init_16 nfX9 ndX9 (CaX.of en (by omega)) ?_
  refine tj_dupa ok dX8_init_19 ?_
  refine tj_callN (rest := ([.inr (.inr (hp_n h5)), .inr (.inr (a0))] : List TV).map (vl g)) (as := []) (i := 6) ok lev (by omega) (of_if e7).1 (k8 g) (CaX.of en (by omega)) kn_X9_init rfl rfl wm_180 (rs_ok (Nat.le_of_ble_eq_true rfl)) rfl dX8_init_20 ?_
  refine tj_putR (k := 1) ok fcX8 (by decide) wm_181 rfl (Or.inr ⟨nmx, rfl⟩) (Or.inl ⟨_, rfl⟩) dX8_init_23 e9 ?_
  refine tj_aload_n ok 0 dX8_init_26 rfl rfl ?_
  refine tj_new ok fcX3 wm_182 wm_183 wm_157 dX8_init_27 nfX3 ndX3 (CaX.of en (by omega)) ?_
  refine tj_dupa ok dX8_init_30 ?_
  refine tj_callN (rest := ([.inr (.inr (hp_n h9)), .inr (.inr (a0))] : List TV).map (vl g)) (as := []) (i := 7) ok lev (by omega) (of_if e11).1 (k12 g) (CaX.of en (by omega)) kn_X3_init rfl rfl wm_184 (rs_ok (Nat.le_of_ble_eq_true rfl)) rfl dX8_init_31 ?_
  refine tj_putR (k := 2) ok fcX8 (by decide) wm_185 rfl (Or.inr ⟨nmx, rfl⟩) (Or.inl ⟨_, rfl⟩) dX8_init_34 e13 ?_
  refine tj_aload_n ok 0 dX8_init_37 rfl rfl ?_
  refine tj_bipush (v := 17) ok dX8_init_38 (by decide) ?_
  refine tj_newI ok wm_39 dX8_init_40 e14 (CaX.of en (by omega)) ?_
  refine tj_putR (k := 3) ok fcX8 (by decide) wm_186 rfl (Or.inr ⟨nmx, rfl⟩) (Or.inr ⟨_, rfl⟩) dX8_init_42 e15 ?_
  refine tj_aload_n ok 0 dX8_init_45 rfl rfl ?_
  refine tj_bipush (v := 17) ok dX8_init_46 (by decide) ?_
  refine tj_newI ok wm_39 dX8_init_48 e16 (CaX.of en (by omega)) ?_
  refine tj_putR (k := 4) ok fcX8 (by decide) wm_187 rfl (Or.inr ⟨nmx, rfl⟩) (Or.inr ⟨_, rfl⟩) dX8_init_50 e17 ?_
  refine tj_aload_n ok 0 dX8_init_53 rfl rfl ?_
  refine tj_iconst (v := 0) ok dX8_init_54 (by decide) ?_
  refine tj_putI (k := 5) ok fcX8 (by decide) wm_188 rfl (Or.inl rfl) rfl dX8_init_55 e18 ?_
  refine tj_aload_n ok 0 dX8_init_58 rfl rfl ?_
  refine tj_iconst (v := 0) ok dX8_init_59 (by decide) ?_
  refine tj_putI (k := 6) ok fcX8 (by decide) wm_189 rfl (Or.inl rfl) rfl dX8_init_60 e19 ?_
  refine tj_aload_n ok 0 dX8_init_63 rfl rfl ?_
  refine tj_null ok dX8_init_64 ?_
  refine tj_putR (k := 7) ok fcX8 (by decide) wm_190 rfl (Or.inl rfl) (Or.inl ⟨_, rfl⟩) dX8_init_65 e20 ?_
  refine tj_aload_n ok 0 dX8_init_68 rfl rfl ?_
  refine tj_iconst (v := 0) ok dX8_init_69 (by decide) ?_
  refine tj_putI (k := 8) ok fcX8 (by decide) wm_191 rfl (Or.inl rfl) rfl dX8_init_70 e21 ?_
  refine tj_aload_n ok 0 dX8_init_73 rfl rfl ?_
  refine tj_null ok dX8_init_74 ?_
  refine tj_putR (k := 9) ok fcX8 (by decide) wm_192 rfl (Or.inl rfl) (Or.inr ⟨_, rfl⟩) dX8_init_75 e22 ?_
  refine tj_aload_n ok 0 dX8_init_78 rfl rfl ?_
  refine tj_null ok dX8_init_79 ?_
  refine tj_putR (k := 10) ok fcX8 (by decide) wm_193 rfl (Or.inl rfl) (Or.inr ⟨_, rfl⟩) dX8_init_80 e23 ?_
  refine tj_aload_n ok 0 dX8_init_83 rfl rfl ?_
  refine tj_iconst (v := 0) ok dX8_init_84 (by decide) ?_
  refine tj_putZ (k := 11) ok fcX8 (by decide) wm_194 rfl (Or.inl rfl) rfl dX8_init_85 e24 ?_
  refine tj_aload_n ok 0 dX8_init_88 rfl rfl ?_
  refine tj_lconst (v := 0) ok dX8_init_89 (by decide) ?_
  refine tj_putJ (k := 12) ok fcX8 (by decide) wm_195 rfl (Or.inl rfl) rfl dX8_init_90 e25 ?_
  exact tj_return ok en dX8_init_93
def f_X8_init (a0 : Nat) (h : AH) : Option (AH) := b_X8_init_0  a0 h
theorem c_X8_init {a0 : Nat} {h hE : AH} (hf : f_X8_init a0 h = some hE) : ∀ g : GT, CM g (4) yX8_init cX8_init 1 none h [.inr (.inr (a0))] hE none :=
  CM.ofJ (by decide) (by show _ ≤ 1; exact Nat.le_of_ble_eq_true rfl) (q_X8_init_0 hf)
/-! ===== LitmusHouse$Search.begin(LLitmusHouse$Program;III)V ===== -/
def b_X8_begin_0 (a0 : Nat) (a1 : Nat) (a2 : Int32) (a3 : Int32) (a4 : Int32) (h : AH) : Option (AH) :=
  (p_r h a0 8 7 a1).bind fun h1 => (p_i h1 a0 8 8 a4).bind fun h2 => (p_z h2 a0 8 11 (0 : Int32)).bind fun h3 => (g_r h3 a0 8 1).bind fun x4 => (ok_v h3 x4 9).bind fun x5 => (f_X9_clear x4 h3).bind fun h6 => (g_r h6 a0 8 0).bind fun x7 => (g_r h6 a1 5 0).bind fun x8 => (ok_v h6 x7 2).bind fun x9 => (f_X2_begin x7 x8 a2 a3 h6).bind fun h10 => some h10
set_option maxHeartbeats 4000000 in
set_option maxRecDepth 100000 in
theorem q_X8_begin_0 {a0 : Nat} {a1 : Nat} {a2 : Int32} {a3 : Int32} {a4 : Int32} {h hE : AH} (hf : b_X8_begin_0 a0 a1 a2 a3 a4 h = some hE) : JD cX8_begin 5 RX8 "begin" none (5) 0 [(0, .inr (.inr (a0))), (1, .inr (.inr (a1))), (2, .inl (a2)), (3, .inl (a3)), (4, .inl (a4))] [] h hE none := by
  unfold b_X8_begin_0 at hf
  obtain ⟨h1, e1, hf⟩ := bnd hf
  have m1 := nn_pr e1
  obtain ⟨h2, e2, hf⟩ := bnd hf
  have m2 := nn_pi e2
  obtain ⟨h3, e3, hf⟩ := bnd hf
  have m3 := nn_pz e3
  obtain ⟨x4, e4, hf⟩ := bnd hf
  obtain ⟨x5, e5, hf⟩ := bnd hf
  obtain ⟨h6, e6, hf⟩ := bnd hf
  have k6 := c_X9_clear e6
  have m6 := (k6 default_g).1
  obtain ⟨x7, e7, hf⟩ := bnd hf
  obtain ⟨x8, e8, hf⟩ := bnd hf
  obtain ⟨x9, e9, hf⟩ := bnd hf
  obtain ⟨h10, e10, hf⟩ := bnd hf
  have k10 := c_X2_begin e10
  have m10 := (k10 default_g).1
  have hh := Option.some.inj hf
  subst hh
  have mE : hp_n h10 ≤ hp_n h10 ∧ hp_s h10 ≤ hp_s h10 := ⟨Nat.le_refl _, Nat.le_refl _⟩
  refine ⟨by omega, fun X g K ok nmx lev hK en => ?_⟩
  refine tj_aload_n ok 0 dX8_begin_0 rfl rfl ?_
  refine tj_aload_n ok 1 dX8_begin_1 rfl rfl ?_
  refine tj_putR (k := 7) ok fcX8 (by decide) wm_190 rfl (Or.inl rfl) (Or.inl ⟨_, rfl⟩) dX8_begin_2 e1 ?_
  refine tj_aload_n ok 0 dX8_begin_5 rfl rfl ?_
  refine tj_iload ok 4 dX8_begin_6 rfl ?_
  refine tj_putI (k := 8) ok fcX8 (by decide) wm_191 rfl (Or.inl rfl) rfl dX8_begin_8 e2 ?_
  refine tj_aload_n ok 0 dX8_begin_11 rfl rfl ?_
  refine tj_iconst (v := 0) ok dX8_begin_12 (by decide) ?_
  refine tj_putZ (k := 11) ok fcX8 (by decide) wm_194 rfl (Or.inl rfl) rfl dX8_begin_13 e3 ?_
  refine tj_aload_n ok 0 dX8_begin_16 rfl rfl ?_
  refine tj_getR (k := 1) ok fcX8 (by decide) wm_181 rfl (Or.inl ⟨_, rfl⟩) dX8_begin_17 e4 ?_
  refine tj_callV (rest := ([] : List TV).map (vl g)) (as := []) ok lev (by omega) fcX9.1 (by decide) rfl (of_if e5).1 (k6 g) (CaX.of en (by omega)) kn_X9_clear wm_276 wm_277 wm_278 (rs_ok (Nat.le_of_ble_eq_true rfl)) rfl rfl dX8_begin_20 ?_
  refine tj_aload_n ok 0 dX8_begin_23 rfl rfl ?_
  refine tj_getR (k := 0) ok fcX8 (by decide) wm_177 rfl (Or.inl ⟨_, rfl⟩) dX8_begin_24 e7 ?_
  refine tj_aload_n ok 1 dX8_begin_27 rfl rfl ?_
  refine tj_getR (k := 0) ok fcX5 (by decide) wm_279 rfl (Or.inl ⟨_, rfl⟩) dX8_begin_28 e8 ?_
  refine tj_iload_n ok 2 dX8_begin_31 rfl rfl ?_
  refine tj_iload_n ok 3 dX8_begin_32 rfl rfl ?_
  refine tj_callV (rest := ([] : List TV).map (vl g)) (as := [.inr (.inr (x8)), .inl (a2), .inl (a3)]) ok lev (by omega) fcX2.1 (by decide) rfl (of_if e9).1 (k10 g) (CaX.of en (by omega)) kn_X2_begin wm_280 wm_281 wm_282 (rs_ok (Nat.le_of_ble_eq_true rfl)) rfl rfl dX8_begin_33 ?_
  exact tj_return ok en dX8_begin_36
def f_X8_begin (a0 : Nat) (a1 : Nat) (a2 : Int32) (a3 : Int32) (a4 : Int32) (h : AH) : Option (AH) := b_X8_begin_0  a0 a1 a2 a3 a4 h
theorem c_X8_begin {a0 : Nat} {a1 : Nat} {a2 : Int32} {a3 : Int32} {a4 : Int32} {h hE : AH} (hf : f_X8_begin a0 a1 a2 a3 a4 h = some hE) : ∀ g : GT, CM g (5) yX8_begin cX8_begin 5 none h [.inr (.inr (a0)), .inr (.inr (a1)), .inl (a2), .inl (a3), .inl (a4)] hE none :=
  CM.ofJ (by decide) (by show _ ≤ 5; exact Nat.le_of_ble_eq_true rfl) (q_X8_begin_0 hf)
/-! ===== LitmusHouse$Search.doActions(JJJII)Z ===== -/
def b_X8_doActions_137 (rc : Nat → Int64 → Int64 → Int64 → Int32 → AH → Option (AH))  (h : AH) : Option (Int32 × AH) :=
  ok_z (1 : Int32) h
set_option maxHeartbeats 4000000 in
set_option maxRecDepth 100000 in
theorem q_X8_doActions_137 {rc : Nat → Int64 → Int64 → Int64 → Int32 → AH → Option (AH)} {kd : Nat} (hrc : ∀ {c0 : Nat} {c1 : Int64} {c2 : Int64} {c3 : Int64} {c4 : Int32} {h h1 : AH} , rc c0 c1 c2 c3 c4 h = some h1 → ∀ g : GT, CM g (kd) yX8_visit cX8_visit 13 none h [.inr (.inr (c0)), .inr (.inl (c1)), .inr (.inl (c2)), .inr (.inl (c3)), .inl (c4)] h1 none) {h hE : AH} {v : Int32} (hf : b_X8_doActions_137 rc  h = some (v, hE)) : JD cX8_doActions 11 RX8 "doActions" (some .boolean) (kd + 5) 137 [] [] h hE (some (.inl (v))) := by
  unfold b_X8_doActions_137 at hf
  have mE : hp_n h ≤ hp_n hE ∧ hp_s h ≤ hp_s hE := by obtain ⟨-, q⟩ := of_if hf; cases q; exact ⟨Nat.le_refl _, Nat.le_refl _⟩
  refine ⟨by omega, fun X g K ok nmx lev hK en => ?_⟩
  refine tj_iconst (v := 1) ok dX8_doActions_137 (by decide) ?_
  exact tj_zreturn ok hf en dX8_doActions_138
def b_X8_doActions_131 (rc : Nat → Int64 → Int64 → Int64 → Int32 → AH → Option (AH)) (r39 : Nat → Int64 → Int64 → Int64 → Int32 → Int32 → Int32 → Int32 → AH → Option (Int32 × AH)) (a0 : Nat) (a1 : Int64) (a3 : Int64) (a5 : Int64) (a7 : Int32) (a8 : Int32) (a9 : Int32) (a10 : Int32) (h : AH) : Option (Int32 × AH) :=
  r39 a0 a1 a3 a5 a7 a8 a9 (a10 + (1 : Int32)) h
set_option maxHeartbeats 4000000 in
set_option maxRecDepth 100000 in
theorem q_X8_doActions_131 {hE : AH} {v : Int32} {rc : Nat → Int64 → Int64 → Int64 → Int32 → AH → Option (AH)} {kd : Nat} (hrc : ∀ {c0 : Nat} {c1 : Int64} {c2 : Int64} {c3 : Int64} {c4 : Int32} {h h1 : AH} , rc c0 c1 c2 c3 c4 h = some h1 → ∀ g : GT, CM g (kd) yX8_visit cX8_visit 13 none h [.inr (.inr (c0)), .inr (.inl (c1)), .inr (.inl (c2)), .inr (.inl (c3)), .inl (c4)] h1 none) {r39 : Nat → Int64 → Int64 → Int64 → Int32 → Int32 → Int32 → Int32 → AH → Option (Int32 × AH)} (hr39 : ∀ (b0 : Nat) (b1 : Int64) (b3 : Int64) (b5 : Int64) (b7 : Int32) (b8 : Int32) (b9 : Int32) (b10 : Int32) (h : AH), r39 b0 b1 b3 b5 b7 b8 b9 b10 h = some (v, hE) → JD cX8_doActions 11 RX8 "doActions" (some .boolean) (kd + 5) 39 [(0, .inr (.inr (b0))), (1, .inr (.inl (b1))), (3, .inr (.inl (b3))), (5, .inr (.inl (b5))), (7, .inl (b7)), (8, .inl (b8)), (9, .inl (b9)), (10, .inl (b10))] [] h hE (some (.inl (v)))) {a0 : Nat} {a1 : Int64} {a3 : Int64} {a5 : Int64} {a7 : Int32} {a8 : Int32} {a9 : Int32} {a10 : Int32} {h : AH} (hf : b_X8_doActions_131 rc r39 a0 a1 a3 a5 a7 a8 a9 a10 h = some (v, hE)) : JD cX8_doActions 11 RX8 "doActions" (some .boolean) (kd + 5) 131 [(0, .inr (.inr (a0))), (1, .inr (.inl (a1))), (3, .inr (.inl (a3))), (5, .inr (.inl (a5))), (7, .inl (a7)), (8, .inl (a8)), (9, .inl (a9)), (10, .inl (a10))] [] h hE (some (.inl (v))) := by
  unfold b_X8_doActions_131 at hf
  have J := hr39 _ _ _ _ _ _ _ _ _ hf
  have mE := J.1
  refine ⟨by omega, fun X g K ok nmx lev hK en => ?_⟩
  refine tj_iinc (lv' := [(0, .inr (.inr (a0))), (1, .inr (.inl (a1))), (3, .inr (.inl (a3))), (5, .inr (.inl (a5))), (7, .inl (a7)), (8, .inl (a8)), (9, .inl (a9)), (10, .inl (a10 + (1 : Int32)))]) ok 7 dX8_doActions_131 rfl (rfl) (by decide) rfl ?_
  refine tj_goto (tgt := 39) ok dX8_doActions_134 (by decide) ?_
  exact J.2 X g K ok nmx lev hK en
def b_X8_doActions_102 (rc : Nat → Int64 → Int64 → Int64 → Int32 → AH → Option (AH)) (r39 : Nat → Int64 → Int64 → Int64 → Int32 → Int32 → Int32 → Int32 → AH → Option (Int32 × AH)) (a0 : Nat) (a1 : Int64) (a3 : Int64) (a5 : Int64) (a7 : Int32) (a8 : Int32) (a9 : Int32) (a10 : Int32) (h : AH) : Option (Int32 × AH) :=
  (g_r h a0 8 0).bind fun x1 => (g_j h x1 2 0).bind fun x2 => (g_r h a0 8 0).bind fun x3 => (g_j h x3 2 1).bind fun x4 => (g_r h a0 8 0).bind fun x5 => (g_j h x5 2 2).bind fun x6 => (ok_v h a0 8).bind fun x7 => (rc a0 x2 x4 x6 (a8 + (1 : Int32)) h).bind fun h8 => b_X8_doActions_131 rc r39 a0 a1 a3 a5 a7 a8 a9 a10 h8
set_option maxHeartbeats 4000000 in
set_option maxRecDepth 100000 in
theorem q_X8_doActions_102 {hE : AH} {v : Int32} {rc : Nat → Int64 → Int64 → Int64 → Int32 → AH → Option (AH)} {kd : Nat} (hrc : ∀ {c0 : Nat} {c1 : Int64} {c2 : Int64} {c3 : Int64} {c4 : Int32} {h h1 : AH} , rc c0 c1 c2 c3 c4 h = some h1 → ∀ g : GT, CM g (kd) yX8_visit cX8_visit 13 none h [.inr (.inr (c0)), .inr (.inl (c1)), .inr (.inl (c2)), .inr (.inl (c3)), .inl (c4)] h1 none) {r39 : Nat → Int64 → Int64 → Int64 → Int32 → Int32 → Int32 → Int32 → AH → Option (Int32 × AH)} (hr39 : ∀ (b0 : Nat) (b1 : Int64) (b3 : Int64) (b5 : Int64) (b7 : Int32) (b8 : Int32) (b9 : Int32) (b10 : Int32) (h : AH), r39 b0 b1 b3 b5 b7 b8 b9 b10 h = some (v, hE) → JD cX8_doActions 11 RX8 "doActions" (some .boolean) (kd + 5) 39 [(0, .inr (.inr (b0))), (1, .inr (.inl (b1))), (3, .inr (.inl (b3))), (5, .inr (.inl (b5))), (7, .inl (b7)), (8, .inl (b8)), (9, .inl (b9)), (10, .inl (b10))] [] h hE (some (.inl (v)))) {a0 : Nat} {a1 : Int64} {a3 : Int64} {a5 : Int64} {a7 : Int32} {a8 : Int32} {a9 : Int32} {a10 : Int32} {h : AH} (hf : b_X8_doActions_102 rc r39 a0 a1 a3 a5 a7 a8 a9 a10 h = some (v, hE)) : JD cX8_doActions 11 RX8 "doActions" (some .boolean) (kd + 5) 102 [(0, .inr (.inr (a0))), (1, .inr (.inl (a1))), (3, .inr (.inl (a3))), (5, .inr (.inl (a5))), (7, .inl (a7)), (8, .inl (a8)), (9, .inl (a9)), (10, .inl (a10))] [] h hE (some (.inl (v))) := by
  unfold b_X8_doActions_102 at hf
  obtain ⟨x1, e1, hf⟩ := bnd hf
  obtain ⟨x2, e2, hf⟩ := bnd hf
  obtain ⟨x3, e3, hf⟩ := bnd hf
  obtain ⟨x4, e4, hf⟩ := bnd hf
  obtain ⟨x5, e5, hf⟩ := bnd hf
  obtain ⟨x6, e6, hf⟩ := bnd hf
  obtain ⟨x7, e7, hf⟩ := bnd hf
  obtain ⟨h8, e8, hf⟩ := bnd hf
  have k8 := hrc e8
  have m8 := (k8 default_g).1
  have J := q_X8_doActions_131 hrc hr39 hf
  have mE := J.1
  refine ⟨by omega, fun X g K ok nmx lev hK en => ?_⟩
  refine tj_aload_n ok 0 dX8_doActions_102 rfl rfl ?_
  refine tj_aload_n ok 0 dX8_doActions_103 rfl rfl ?_
  refine tj_getR (k := 0) ok fcX8 (by decide) wm_177 rfl (Or.inl ⟨_, rfl⟩) dX8_doActions_104 e1 ?_
  refine tj_getJ (k := 0) ok fcX2 (by decide) wm_352 rfl rfl dX8_doActions_107 e2 ?_
  refine tj_aload_n ok 0 dX8_doActions_110 rfl rfl ?_
  refine tj_getR (k := 0) ok fcX8 (by decide) wm_177 rfl (Or.inl ⟨_, rfl⟩) dX8_doActions_111 e3 ?_
  refine tj_getJ (k := 1) ok fcX2 (by decide) wm_353 rfl rfl dX8_doActions_114 e4 ?_
  refine tj_aload_n ok 0 dX8_doActions_117 rfl rfl ?_
  refine tj_getR (k := 0) ok fcX8 (by decide) wm_177 rfl (Or.inl ⟨_, rfl⟩) dX8_doActions_118 e5 ?_
  refine tj_getJ (k := 2) ok fcX2 (by decide) wm_354 rfl rfl dX8_doActions_121 e6 ?_
  refine tj_iload ok 5 dX8_doActions_124 rfl ?_
  refine tj_iconst (v := 1) ok dX8_doActions_126 (by decide) ?_
  refine tj_iadd ok dX8_doActions_127 ?_
  refine tj_callV (rest := ([] : List TV).map (vl g)) (as := [.inr (.inl (x2)), .inr (.inl (x4)), .inr (.inl (x6)), .inl (a8 + (1 : Int32))]) ok lev (by omega) fcX8.1 (by decide) rfl (of_if e7).1 (k8 g) (CaX.of en (by omega)) kn_X8_visit wm_355 wm_356 wm_357 (rs_ok (Nat.le_of_ble_eq_true rfl)) rfl rfl dX8_doActions_128 ?_
  exact J.2 X g K ok nmx lev hK en
def b_X8_doActions_93 (rc : Nat → Int64 → Int64 → Int64 → Int32 → AH → Option (AH)) (r39 : Nat → Int64 → Int64 → Int64 → Int32 → Int32 → Int32 → Int32 → AH → Option (Int32 × AH)) (a0 : Nat) (a1 : Int64) (a3 : Int64) (a5 : Int64) (a7 : Int32) (a8 : Int32) (a9 : Int32) (a10 : Int32) (h : AH) : Option (Int32 × AH) :=
  (g_r h a0 8 3).bind fun x1 => (s_i h x1 a8 a7).bind fun h2 => b_X8_doActions_102 rc r39 a0 a1 a3 a5 a7 a8 a9 a10 h2
set_option maxHeartbeats 4000000 in
set_option maxRecDepth 100000 in
theorem q_X8_doActions_93 {hE : AH} {v : Int32} {rc : Nat → Int64 → Int64 → Int64 → Int32 → AH → Option (AH)} {kd : Nat} (hrc : ∀ {c0 : Nat} {c1 : Int64} {c2 : Int64} {c3 : Int64} {c4 : Int32} {h h1 : AH} , rc c0 c1 c2 c3 c4 h = some h1 → ∀ g : GT, CM g (kd) yX8_visit cX8_visit 13 none h [.inr (.inr (c0)), .inr (.inl (c1)), .inr (.inl (c2)), .inr (.inl (c3)), .inl (c4)] h1 none) {r39 : Nat → Int64 → Int64 → Int64 → Int32 → Int32 → Int32 → Int32 → AH → Option (Int32 × AH)} (hr39 : ∀ (b0 : Nat) (b1 : Int64) (b3 : Int64) (b5 : Int64) (b7 : Int32) (b8 : Int32) (b9 : Int32) (b10 : Int32) (h : AH), r39 b0 b1 b3 b5 b7 b8 b9 b10 h = some (v, hE) → JD cX8_doActions 11 RX8 "doActions" (some .boolean) (kd + 5) 39 [(0, .inr (.inr (b0))), (1, .inr (.inl (b1))), (3, .inr (.inl (b3))), (5, .inr (.inl (b5))), (7, .inl (b7)), (8, .inl (b8)), (9, .inl (b9)), (10, .inl (b10))] [] h hE (some (.inl (v)))) {a0 : Nat} {a1 : Int64} {a3 : Int64} {a5 : Int64} {a7 : Int32} {a8 : Int32} {a9 : Int32} {a10 : Int32} {h : AH} (hf : b_X8_doActions_93 rc r39 a0 a1 a3 a5 a7 a8 a9 a10 h = some (v, hE)) : JD cX8_doActions 11 RX8 "doActions" (some .boolean) (kd + 5) 93 [(0, .inr (.inr (a0))), (1, .inr (.inl (a1))), (3, .inr (.inl (a3))), (5, .inr (.inl (a5))), (7, .inl (a7)), (8, .inl (a8)), (9, .inl (a9)), (10, .inl (a10))] [] h hE (some (.inl (v))) := by
  unfold b_X8_doActions_93 at hf
  obtain ⟨x1, e1, hf⟩ := bnd hf
  obtain ⟨h2, e2, hf⟩ := bnd hf
  have m2 := nn_si e2
  have J := q_X8_doActions_102 hrc hr39 hf
  have mE := J.1
  refine ⟨by omega, fun X g K ok nmx lev hK en => ?_⟩
  refine tj_aload_n ok 0 dX8_doActions_93 rfl rfl ?_
  refine tj_getR (k := 3) ok fcX8 (by decide) wm_186 rfl (Or.inr ⟨_, rfl⟩) dX8_doActions_94 e1 ?_
  refine tj_iload ok 5 dX8_doActions_97 rfl ?_
  refine tj_iload ok 4 dX8_doActions_99 rfl ?_
  refine tj_iastore ok dX8_doActions_101 e2 ?_
  exact J.2 X g K ok nmx lev hK en
def b_X8_doActions_83 (rc : Nat → Int64 → Int64 → Int64 → Int32 → AH → Option (AH)) (r39 : Nat → Int64 → Int64 → Int64 → Int32 → Int32 → Int32 → Int32 → AH → Option (Int32 × AH)) (a0 : Nat) (a1 : Int64) (a3 : Int64) (a5 : Int64) (a7 : Int32) (a8 : Int32) (a9 : Int32) (a10 : Int32) (h : AH) : Option (Int32 × AH) :=
  (g_r h a0 8 3).bind fun x1 => (al_n h x1).bind fun x2 => if x2 ≤ a8 then b_X8_doActions_102 rc r39 a0 a1 a3 a5 a7 a8 a9 a10 h else b_X8_doActions_93 rc r39 a0 a1 a3 a5 a7 a8 a9 a10 h
set_option maxHeartbeats 4000000 in
set_option maxRecDepth 100000 in
theorem q_X8_doActions_83 {hE : AH} {v : Int32} {rc : Nat → Int64 → Int64 → Int64 → Int32 → AH → Option (AH)} {kd : Nat} (hrc : ∀ {c0 : Nat} {c1 : Int64} {c2 : Int64} {c3 : Int64} {c4 : Int32} {h h1 : AH} , rc c0 c1 c2 c3 c4 h = some h1 → ∀ g : GT, CM g (kd) yX8_visit cX8_visit 13 none h [.inr (.inr (c0)), .inr (.inl (c1)), .inr (.inl (c2)), .inr (.inl (c3)), .inl (c4)] h1 none) {r39 : Nat → Int64 → Int64 → Int64 → Int32 → Int32 → Int32 → Int32 → AH → Option (Int32 × AH)} (hr39 : ∀ (b0 : Nat) (b1 : Int64) (b3 : Int64) (b5 : Int64) (b7 : Int32) (b8 : Int32) (b9 : Int32) (b10 : Int32) (h : AH), r39 b0 b1 b3 b5 b7 b8 b9 b10 h = some (v, hE) → JD cX8_doActions 11 RX8 "doActions" (some .boolean) (kd + 5) 39 [(0, .inr (.inr (b0))), (1, .inr (.inl (b1))), (3, .inr (.inl (b3))), (5, .inr (.inl (b5))), (7, .inl (b7)), (8, .inl (b8)), (9, .inl (b9)), (10, .inl (b10))] [] h hE (some (.inl (v)))) {a0 : Nat} {a1 : Int64} {a3 : Int64} {a5 : Int64} {a7 : Int32} {a8 : Int32} {a9 : Int32} {a10 : Int32} {h : AH} (hf : b_X8_doActions_83 rc r39 a0 a1 a3 a5 a7 a8 a9 a10 h = some (v, hE)) : JD cX8_doActions 11 RX8 "doActions" (some .boolean) (kd + 5) 83 [(0, .inr (.inr (a0))), (1, .inr (.inl (a1))), (3, .inr (.inl (a3))), (5, .inr (.inl (a5))), (7, .inl (a7)), (8, .inl (a8)), (9, .inl (a9)), (10, .inl (a10))] [] h hE (some (.inl (v))) := by
  unfold b_X8_doActions_83 at hf
  obtain ⟨x1, e1, hf⟩ := bnd hf
  obtain ⟨x2, e2, hf⟩ := bnd hf
  have mE : hp_n h ≤ hp_n hE ∧ hp_s h ≤ hp_s hE := by
    by_cases hc : x2 ≤ a8
    · rw [if_pos hc] at hf; exact (q_X8_doActions_102 hrc hr39 hf).1
    · rw [if_neg hc] at hf; exact (q_X8_doActions_93 hrc hr39 hf).1
  refine ⟨by omega, fun X g K ok nmx lev hK en => ?_⟩
  refine tj_iload ok 5 dX8_doActions_83 rfl ?_
  refine tj_aload_n ok 0 dX8_doActions_85 rfl rfl ?_
  refine tj_getR (k := 3) ok fcX8 (by decide) wm_186 rfl (Or.inr ⟨_, rfl⟩) dX8_doActions_86 e1 ?_
  refine tj_alen ok dX8_doActions_89 e2 ?_
  refine tj_icmp_ge (tgt := 102) ok dX8_doActions_90 (by decide) (fun hc => ?_) (fun hc => ?_)
  · rw [if_pos hc] at hf
    exact (q_X8_doActions_102 hrc hr39 hf).2 X g K ok nmx lev hK en
  · rw [if_neg hc] at hf
    exact (q_X8_doActions_93 hrc hr39 hf).2 X g K ok nmx lev hK en
def b_X8_doActions_56 (rc : Nat → Int64 → Int64 → Int64 → Int32 → AH → Option (AH)) (r39 : Nat → Int64 → Int64 → Int64 → Int32 → Int32 → Int32 → Int32 → AH → Option (Int32 × AH)) (a0 : Nat) (a1 : Int64) (a3 : Int64) (a5 : Int64) (a7 : Int32) (a8 : Int32) (a9 : Int32) (a10 : Int32) (h : AH) : Option (Int32 × AH) :=
  (g_r h a0 8 0).bind fun x1 => (ok_v h x1 2).bind fun x2 => (f_X2_set x1 a1 a3 a5 h).bind fun h3 => (g_r h3 a0 8 0).bind fun x4 => (ok_v h3 x4 2).bind fun x5 => (f_X2_act x4 a7 a10 h3).bind fun h6 => if a8 < 0 then b_X8_doActions_102 rc r39 a0 a1 a3 a5 a7 a8 a9 a10 h6 else b_X8_doActions_83 rc r39 a0 a1 a3 a5 a7 a8 a9 a10 h6
set_option maxHeartbeats 4000000 in
set_option maxRecDepth 100000 in
theorem q_X8_doActions_56 {hE : AH} {v : Int32} {rc : Nat → Int64 → Int64 → Int64 → Int32 → AH → Option (AH)} {kd : Nat} (hrc : ∀ {c0 : Nat} {c1 : Int64} {c2 : Int64} {c3 : Int64} {c4 : Int32} {h h1 : AH} , rc c0 c1 c2 c3 c4 h = some h1 → ∀ g : GT, CM g (kd) yX8_visit cX8_visit 13 none h [.inr (.inr (c0)), .inr (.inl (c1)), .inr (.inl (c2)), .inr (.inl (c3)), .inl (c4)] h1 none) {r39 : Nat → Int64 → Int64 → Int64 → Int32 → Int32 → Int32 → Int32 → AH → Option (Int32 × AH)} (hr39 : ∀ (b0 : Nat) (b1 : Int64) (b3 : Int64) (b5 : Int64) (b7 : Int32) (b8 : Int32) (b9 : Int32) (b10 : Int32) (h : AH), r39 b0 b1 b3 b5 b7 b8 b9 b10 h = some (v, hE) → JD cX8_doActions 11 RX8 "doActions" (some .boolean) (kd + 5) 39 [(0, .inr (.inr (b0))), (1, .inr (.inl (b1))), (3, .inr (.inl (b3))), (5, .inr (.inl (b5))), (7, .inl (b7)), (8, .inl (b8)), (9, .inl (b9)), (10, .inl (b10))] [] h hE (some (.inl (v)))) {a0 : Nat} {a1 : Int64} {a3 : Int64} {a5 : Int64} {a7 : Int32} {a8 : Int32} {a9 : Int32} {a10 : Int32} {h : AH} (hf : b_X8_doActions_56 rc r39 a0 a1 a3 a5 a7 a8 a9 a10 h = some (v, hE)) : JD cX8_doActions 11 RX8 "doActions" (some .boolean) (kd + 5) 56 [(0, .inr (.inr (a0))), (1, .inr (.inl (a1))), (3, .inr (.inl (a3))), (5, .inr (.inl (a5))), (7, .inl (a7)), (8, .inl (a8)), (9, .inl (a9)), (10, .inl (a10))] [] h hE (some (.inl (v))) := by
  unfold b_X8_doActions_56 at hf
  obtain ⟨x1, e1, hf⟩ := bnd hf
  obtain ⟨x2, e2, hf⟩ := bnd hf
  obtain ⟨h3, e3, hf⟩ := bnd hf
  have k3 := c_X2_set e3
  have m3 := (k3 default_g).1
  obtain ⟨x4, e4, hf⟩ := bnd hf
  obtain ⟨x5, e5, hf⟩ := bnd hf
  obtain ⟨h6, e6, hf⟩ := bnd hf
  have k6 := c_X2_act e6
  have m6 := (k6 default_g).1
  have mE : hp_n h6 ≤ hp_n hE ∧ hp_s h6 ≤ hp_s hE := by
    by_cases hc : a8 < 0
    · rw [if_pos hc] at hf; exact (q_X8_doActions_102 hrc hr39 hf).1
    · rw [if_neg hc] at hf; exact (q_X8_doActions_83 hrc hr39 hf).1
  refine ⟨by omega, fun X g K ok nmx lev hK en => ?_⟩
  refine tj_aload_n ok 0 dX8_doActions_56 rfl rfl ?_
  refine tj_getR (k := 0) ok fcX8 (by decide) wm_177 rfl (Or.inl ⟨_, rfl⟩) dX8_doActions_57 e1 ?_
  refine tj_lload_n ok 1 dX8_doActions_60 rfl rfl ?_
  refine tj_lload_n ok 2 dX8_doActions_61 rfl rfl ?_
  refine tj_lload ok 3 dX8_doActions_62 rfl ?_
  refine tj_callV (rest := ([] : List TV).map (vl g)) (as := [.inr (.inl (a1)), .inr (.inl (a3)), .inr (.inl (a5))]) ok lev (by omega) fcX2.1 (by decide) rfl (of_if e2).1 (k3 g) (CaX.of en (by omega)) kn_X2_set wm_358 wm_266 wm_267 (rs_ok (Nat.le_of_ble_eq_true rfl)) rfl rfl dX8_doActions_64 ?_
  refine tj_aload_n ok 0 dX8_doActions_67 rfl rfl ?_
  refine tj_getR (k := 0) ok fcX8 (by decide) wm_177 rfl (Or.inl ⟨_, rfl⟩) dX8_doActions_68 e4 ?_
  refine tj_iload ok 4 dX8_doActions_71 rfl ?_
  refine tj_iload ok 7 dX8_doActions_73 rfl ?_
  refine tj_callV (rest := ([] : List TV).map (vl g)) (as := [.inl (a7), .inl (a10)]) ok lev (by omega) fcX2.1 (by decide) rfl (of_if e5).1 (k6 g) (CaX.of en (by omega)) kn_X2_act wm_359 wm_360 wm_361 (rs_ok (Nat.le_of_ble_eq_true rfl)) rfl rfl dX8_doActions_75 ?_
  refine tj_iload ok 5 dX8_doActions_78 rfl ?_
  refine tj_if_lt (tgt := 102) ok dX8_doActions_80 (by decide) (fun hc => ?_) (fun hc => ?_)
  · rw [if_pos hc] at hf
    exact (q_X8_doActions_102 hrc hr39 hf).2 X g K ok nmx lev hK en
  · rw [if_neg hc] at hf
    exact (q_X8_doActions_83 hrc hr39 hf).2 X g K ok nmx lev hK en
def b_X8_doActions_46 (rc : Nat → Int64 → Int64 → Int64 → Int32 → AH → Option (AH)) (r39 : Nat → Int64 → Int64 → Int64 → Int32 → Int32 → Int32 → Int32 → AH → Option (Int32 × AH)) (a0 : Nat) (a1 : Int64) (a3 : Int64) (a5 : Int64) (a7 : Int32) (a8 : Int32) (a9 : Int32) (a10 : Int32) (h : AH) : Option (Int32 × AH) :=
  if ((a9 >>> (a10 &&& 31)) &&& (1 : Int32)) = 0 then b_X8_doActions_131 rc r39 a0 a1 a3 a5 a7 a8 a9 a10 h else b_X8_doActions_56 rc r39 a0 a1 a3 a5 a7 a8 a9 a10 h
set_option maxHeartbeats 4000000 in
set_option maxRecDepth 100000 in
theorem q_X8_doActions_46 {hE : AH} {v : Int32} {rc : Nat → Int64 → Int64 → Int64 → Int32 → AH → Option (AH)} {kd : Nat} (hrc : ∀ {c0 : Nat} {c1 : Int64} {c2 : Int64} {c3 : Int64} {c4 : Int32} {h h1 : AH} , rc c0 c1 c2 c3 c4 h = some h1 → ∀ g : GT, CM g (kd) yX8_visit cX8_visit 13 none h [.inr (.inr (c0)), .inr (.inl (c1)), .inr (.inl (c2)), .inr (.inl (c3)), .inl (c4)] h1 none) {r39 : Nat → Int64 → Int64 → Int64 → Int32 → Int32 → Int32 → Int32 → AH → Option (Int32 × AH)} (hr39 : ∀ (b0 : Nat) (b1 : Int64) (b3 : Int64) (b5 : Int64) (b7 : Int32) (b8 : Int32) (b9 : Int32) (b10 : Int32) (h : AH), r39 b0 b1 b3 b5 b7 b8 b9 b10 h = some (v, hE) → JD cX8_doActions 11 RX8 "doActions" (some .boolean) (kd + 5) 39 [(0, .inr (.inr (b0))), (1, .inr (.inl (b1))), (3, .inr (.inl (b3))), (5, .inr (.inl (b5))), (7, .inl (b7)), (8, .inl (b8)), (9, .inl (b9)), (10, .inl (b10))] [] h hE (some (.inl (v)))) {a0 : Nat} {a1 : Int64} {a3 : Int64} {a5 : Int64} {a7 : Int32} {a8 : Int32} {a9 : Int32} {a10 : Int32} {h : AH} (hf : b_X8_doActions_46 rc r39 a0 a1 a3 a5 a7 a8 a9 a10 h = some (v, hE)) : JD cX8_doActions 11 RX8 "doActions" (some .boolean) (kd + 5) 46 [(0, .inr (.inr (a0))), (1, .inr (.inl (a1))), (3, .inr (.inl (a3))), (5, .inr (.inl (a5))), (7, .inl (a7)), (8, .inl (a8)), (9, .inl (a9)), (10, .inl (a10))] [] h hE (some (.inl (v))) := by
  unfold b_X8_doActions_46 at hf
  have mE : hp_n h ≤ hp_n hE ∧ hp_s h ≤ hp_s hE := by
    by_cases hc : ((a9 >>> (a10 &&& 31)) &&& (1 : Int32)) = 0
    · rw [if_pos hc] at hf; exact (q_X8_doActions_131 hrc hr39 hf).1
    · rw [if_neg hc] at hf; exact (q_X8_doActions_56 hrc hr39 hf).1
  refine ⟨by omega, fun X g K ok nmx lev hK en => ?_⟩
  refine tj_iload ok 6 dX8_doActions_46 rfl ?_
  refine tj_iload ok 7 dX8_doActions_48 rfl ?_
  refine tj_ishr ok dX8_doActions_50 ?_
  refine tj_iconst (v := 1) ok dX8_doActions_51 (by decide) ?_
  refine tj_iand ok dX8_doActions_52 ?_
  refine tj_if_eq (tgt := 131) ok dX8_doActions_53 (by decide) (fun hc => ?_) (fun hc => ?_)
  · rw [if_pos hc] at hf
    exact (q_X8_doActions_131 hrc hr39 hf).2 X g K ok nmx lev hK en
  · rw [if_neg hc] at hf
    exact (q_X8_doActions_56 hrc hr39 hf).2 X g K ok nmx lev hK en
def b_X8_doActions_39 (rc : Nat → Int64 → Int64 → Int64 → Int32 → AH → Option (AH)) (r39 : Nat → Int64 → Int64 → Int64 → Int32 → Int32 → Int32 → Int32 → AH → Option (Int32 × AH)) (a0 : Nat) (a1 : Int64) (a3 : Int64) (a5 : Int64) (a7 : Int32) (a8 : Int32) (a9 : Int32) (a10 : Int32) (h : AH) : Option (Int32 × AH) :=
  if (8 : Int32) < a10 then b_X8_doActions_137 rc h else b_X8_doActions_46 rc r39 a0 a1 a3 a5 a7 a8 a9 a10 h
set_option maxHeartbeats 4000000 in
set_option maxRecDepth 100000 in
theorem q_X8_doActions_39 {hE : AH} {v : Int32} {rc : Nat → Int64 → Int64 → Int64 → Int32 → AH → Option (AH)} {kd : Nat} (hrc : ∀ {c0 : Nat} {c1 : Int64} {c2 : Int64} {c3 : Int64} {c4 : Int32} {h h1 : AH} , rc c0 c1 c2 c3 c4 h = some h1 → ∀ g : GT, CM g (kd) yX8_visit cX8_visit 13 none h [.inr (.inr (c0)), .inr (.inl (c1)), .inr (.inl (c2)), .inr (.inl (c3)), .inl (c4)] h1 none) {r39 : Nat → Int64 → Int64 → Int64 → Int32 → Int32 → Int32 → Int32 → AH → Option (Int32 × AH)} (hr39 : ∀ (b0 : Nat) (b1 : Int64) (b3 : Int64) (b5 : Int64) (b7 : Int32) (b8 : Int32) (b9 : Int32) (b10 : Int32) (h : AH), r39 b0 b1 b3 b5 b7 b8 b9 b10 h = some (v, hE) → JD cX8_doActions 11 RX8 "doActions" (some .boolean) (kd + 5) 39 [(0, .inr (.inr (b0))), (1, .inr (.inl (b1))), (3, .inr (.inl (b3))), (5, .inr (.inl (b5))), (7, .inl (b7)), (8, .inl (b8)), (9, .inl (b9)), (10, .inl (b10))] [] h hE (some (.inl (v)))) {a0 : Nat} {a1 : Int64} {a3 : Int64} {a5 : Int64} {a7 : Int32} {a8 : Int32} {a9 : Int32} {a10 : Int32} {h : AH} (hf : b_X8_doActions_39 rc r39 a0 a1 a3 a5 a7 a8 a9 a10 h = some (v, hE)) : JD cX8_doActions 11 RX8 "doActions" (some .boolean) (kd + 5) 39 [(0, .inr (.inr (a0))), (1, .inr (.inl (a1))), (3, .inr (.inl (a3))), (5, .inr (.inl (a5))), (7, .inl (a7)), (8, .inl (a8)), (9, .inl (a9)), (10, .inl (a10))] [] h hE (some (.inl (v))) := by
  unfold b_X8_doActions_39 at hf
  have mE : hp_n h ≤ hp_n hE ∧ hp_s h ≤ hp_s hE := by
    by_cases hc : (8 : Int32) < a10
    · rw [if_pos hc] at hf; exact (q_X8_doActions_137 hrc hf).1
    · rw [if_neg hc] at hf; exact (q_X8_doActions_46 hrc hr39 hf).1
  refine ⟨by omega, fun X g K ok nmx lev hK en => ?_⟩
  refine tj_iload ok 7 dX8_doActions_39 rfl ?_
  refine tj_bipush (v := 8) ok dX8_doActions_41 (by decide) ?_
  refine tj_icmp_gt (tgt := 137) ok dX8_doActions_43 (by decide) (fun hc => ?_) (fun hc => ?_)
  · rw [if_pos hc] at hf
    refine tj_sub (lv' := []) [] rfl ?_
    exact (q_X8_doActions_137 hrc hf).2 X g K ok nmx lev hK en
  · rw [if_neg hc] at hf
    exact (q_X8_doActions_46 hrc hr39 hf).2 X g K ok nmx lev hK en
def l_X8_doActions_39 (rc : Nat → Int64 → Int64 → Int64 → Int32 → AH → Option (AH)) : Nat → Nat → Int64 → Int64 → Int64 → Int32 → Int32 → Int32 → Int32 → AH → Option (Int32 × AH)
  | 0 => fun _ _ _ _ _ _ _ _ _ => none
  | n + 1 => fun a0 a1 a3 a5 a7 a8 a9 a10 h => b_X8_doActions_39 rc (l_X8_doActions_39 rc n) a0 a1 a3 a5 a7 a8 a9 a10 h
theorem ql_X8_doActions_39 {rc : Nat → Int64 → Int64 → Int64 → Int32 → AH → Option (AH)} {kd : Nat} (hrc : ∀ {c0 : Nat} {c1 : Int64} {c2 : Int64} {c3 : Int64} {c4 : Int32} {h h1 : AH} , rc c0 c1 c2 c3 c4 h = some h1 → ∀ g : GT, CM g (kd) yX8_visit cX8_visit 13 none h [.inr (.inr (c0)), .inr (.inl (c1)), .inr (.inl (c2)), .inr (.inl (c3)), .inl (c4)] h1 none) {n : Nat} {a0 : Nat} {a1 : Int64} {a3 : Int64} {a5 : Int64} {a7 : Int32} {a8 : Int32} {a9 : Int32} {a10 : Int32} {h hE : AH} {v : Int32} (hf : l_X8_doActions_39 rc n a0 a1 a3 a5 a7 a8 a9 a10 h = some (v, hE)) : JD cX8_doActions 11 RX8 "doActions" (some .boolean) (kd + 5) 39 [(0, .inr (.inr (a0))), (1, .inr (.inl (a1))), (3, .inr (.inl (a3))), (5, .inr (.inl (a5))), (7, .inl (a7)), (8, .inl (a8)), (9, .inl (a9)), (10, .inl (a10))] [] h hE (some (.inl (v))) := by
  induction n generalizing a0 a1 a3 a5 a7 a8 a9 a10 h with
  | zero => cases hf
  | succ n ih => exact q_X8_doActions_39 hrc (fun _ _ _ _ _ _ _ _ _ hf => ih hf) hf
def b_X8_doActions_25 (rc : Nat → Int64 → Int64 → Int64 → Int32 → AH → Option (AH)) (a0 : Nat) (a1 : Int64) (a3 : Int64) (a5 : Int64) (a7 : Int32) (a8 : Int32) (h : AH) : Option (Int32 × AH) :=
  (g_r h a0 8 0).bind fun x1 => (ok_v h x1 2).bind fun x2 => (f_X2_sights x1 a7 h).bind fun q3 => l_X8_doActions_39 rc fu_ a0 a1 a3 a5 a7 a8 q3.1 (0 : Int32) q3.2
set_option maxHeartbeats 4000000 in
set_option maxRecDepth 100000 in
theorem q_X8_doActions_25 {rc : Nat → Int64 → Int64 → Int64 → Int32 → AH → Option (AH)} {kd : Nat} (hrc : ∀ {c0 : Nat} {c1 : Int64} {c2 : Int64} {c3 : Int64} {c4 : Int32} {h h1 : AH} , rc c0 c1 c2 c3 c4 h = some h1 → ∀ g : GT, CM g (kd) yX8_visit cX8_visit 13 none h [.inr (.inr (c0)), .inr (.inl (c1)), .inr (.inl (c2)), .inr (.inl (c3)), .inl (c4)] h1 none) {a0 : Nat} {a1 : Int64} {a3 : Int64} {a5 : Int64} {a7 : Int32} {a8 : Int32} {h hE : AH} {v : Int32} (hf : b_X8_doActions_25 rc a0 a1 a3 a5 a7 a8 h = some (v, hE)) : JD cX8_doActions 11 RX8 "doActions" (some .boolean) (kd + 5) 25 [(0, .inr (.inr (a0))), (1, .inr (.inl (a1))), (3, .inr (.inl (a3))), (5, .inr (.inl (a5))), (7, .inl (a7)), (8, .inl (a8))] [] h hE (some (.inl (v))) := by
  unfold b_X8_doActions_25 at hf
  obtain ⟨x1, e1, hf⟩ := bnd hf
  obtain ⟨x2, e2, hf⟩ := bnd hf
  obtain ⟨⟨x3, h3⟩, e3, hf⟩ := bnd hf
  try dsimp only at hf
  have k3 := c_X2_sights e3
  have m3 := (k3 default_g).1
  have J := ql_X8_doActions_39 hrc hf
  have mE := J.1
  refine ⟨by omega, fun X g K ok nmx lev hK en => ?_⟩
  refine tj_aload_n ok 0 dX8_doActions_25 rfl rfl ?_
  refine tj_getR (k := 0) ok fcX8 (by decide) wm_177 rfl (Or.inl ⟨_, rfl⟩) dX8_doActions_26 e1 ?_
  refine tj_iload ok 4 dX8_doActions_29 rfl ?_
  refine tj_callV (rest := ([] : List TV).map (vl g)) (as := [.inl (a7)]) ok lev (by omega) fcX2.1 (by decide) rfl (of_if e2).1 (k3 g) (CaX.of en (by omega)) kn_X2_sights wm_362 wm_363 wm_364 (rs_ok (Nat.le_of_ble_eq_true rfl)) rfl rfl dX8_doActions_31 ?_
  refine tj_istore (lv' := [(0, .inr (.inr (a0))), (1, .inr (.inl (a1))), (3, .inr (.inl (a3))), (5, .inr (.inl (a5))), (7, .inl (a7)), (8, .inl (a8)), (9, .inl (x3))]) ok dX8_doActions_34 (by decide) rfl ?_
  refine tj_iconst (v := 0) ok dX8_doActions_36 (by decide) ?_
  refine tj_istore (lv' := [(0, .inr (.inr (a0))), (1, .inr (.inl (a1))), (3, .inr (.inl (a3))), (5, .inr (.inl (a5))), (7, .inl (a7)), (8, .inl (a8)), (9, .inl (x3)), (10, .inl ((0 : Int32)))]) ok dX8_doActions_37 (by decide) rfl ?_
  exact J.2 X g K ok nmx lev hK en
def b_X8_doActions_23 (rc : Nat → Int64 → Int64 → Int64 → Int32 → AH → Option (AH))  (h : AH) : Option (Int32 × AH) :=
  ok_z (0 : Int32) h
set_option maxHeartbeats 4000000 in
set_option maxRecDepth 100000 in
theorem q_X8_doActions_23 {rc : Nat → Int64 → Int64 → Int64 → Int32 → AH → Option (AH)} {kd : Nat} (hrc : ∀ {c0 : Nat} {c1 : Int64} {c2 : Int64} {c3 : Int64} {c4 : Int32} {h h1 : AH} , rc c0 c1 c2 c3 c4 h = some h1 → ∀ g : GT, CM g (kd) yX8_visit cX8_visit 13 none h [.inr (.inr (c0)), .inr (.inl (c1)), .inr (.inl (c2)), .inr (.inl (c3)), .inl (c4)] h1 none) {h hE : AH} {v : Int32} (hf : b_X8_doActions_23 rc  h = some (v, hE)) : JD cX8_doActions 11 RX8 "doActions" (some .boolean) (kd + 5) 23 [] [] h hE (some (.inl (v))) := by
  unfold b_X8_doActions_23 at hf
  have mE : hp_n h ≤ hp_n hE ∧ hp_s h ≤ hp_s hE := by obtain ⟨-, q⟩ := of_if hf; cases q; exact ⟨Nat.le_refl _, Nat.le_refl _⟩
  refine ⟨by omega, fun X g K ok nmx lev hK en => ?_⟩
  refine tj_iconst (v := 0) ok dX8_doActions_23 (by decide) ?_
  exact tj_zreturn ok hf en dX8_doActions_24
def b_X8_doActions_0 (rc : Nat → Int64 → Int64 → Int64 → Int32 → AH → Option (AH)) (a0 : Nat) (a1 : Int64) (a3 : Int64) (a5 : Int64) (a7 : Int32) (a8 : Int32) (h : AH) : Option (Int32 × AH) :=
  (g_r h a0 8 0).bind fun x1 => (ok_v h x1 2).bind fun x2 => (f_X2_set x1 a1 a3 a5 h).bind fun h3 => (g_r h3 a0 8 0).bind fun x4 => (ok_v h3 x4 2).bind fun x5 => (f_X2_canAct x4 a7 h3).bind fun q6 => if q6.1 = 0 then b_X8_doActions_23 rc q6.2 else b_X8_doActions_25 rc a0 a1 a3 a5 a7 a8 q6.2
set_option maxHeartbeats 4000000 in
set_option maxRecDepth 100000 in
theorem q_X8_doActions_0 {rc : Nat → Int64 → Int64 → Int64 → Int32 → AH → Option (AH)} {kd : Nat} (hrc : ∀ {c0 : Nat} {c1 : Int64} {c2 : Int64} {c3 : Int64} {c4 : Int32} {h h1 : AH} , rc c0 c1 c2 c3 c4 h = some h1 → ∀ g : GT, CM g (kd) yX8_visit cX8_visit 13 none h [.inr (.inr (c0)), .inr (.inl (c1)), .inr (.inl (c2)), .inr (.inl (c3)), .inl (c4)] h1 none) {a0 : Nat} {a1 : Int64} {a3 : Int64} {a5 : Int64} {a7 : Int32} {a8 : Int32} {h hE : AH} {v : Int32} (hf : b_X8_doActions_0 rc a0 a1 a3 a5 a7 a8 h = some (v, hE)) : JD cX8_doActions 11 RX8 "doActions" (some .boolean) (kd + 5) 0 [(0, .inr (.inr (a0))), (1, .inr (.inl (a1))), (3, .inr (.inl (a3))), (5, .inr (.inl (a5))), (7, .inl (a7)), (8, .inl (a8))] [] h hE (some (.inl (v))) := by
  unfold b_X8_doActions_0 at hf
  obtain ⟨x1, e1, hf⟩ := bnd hf
  obtain ⟨x2, e2, hf⟩ := bnd hf
  obtain ⟨h3, e3, hf⟩ := bnd hf
  have k3 := c_X2_set e3
  have m3 := (k3 default_g).1
  obtain ⟨x4, e4, hf⟩ := bnd hf
  obtain ⟨x5, e5, hf⟩ := bnd hf
  obtain ⟨⟨x6, h6⟩, e6, hf⟩ := bnd hf
  try dsimp only at hf
  have k6 := c_X2_canAct e6
  have m6 := (k6 default_g).1
  have mE : hp_n h6 ≤ hp_n hE ∧ hp_s h6 ≤ hp_s hE := by
    by_cases hc : x6 = 0
    · rw [if_pos hc] at hf; exact (q_X8_doActions_23 hrc hf).1
    · rw [if_neg hc] at hf; exact (q_X8_doActions_25 hrc hf).1
  refine ⟨by omega, fun X g K ok nmx lev hK en => ?_⟩
  refine tj_aload_n ok 0 dX8_doActions_0 rfl rfl ?_
  refine tj_getR (k := 0) ok fcX8 (by decide) wm_177 rfl (Or.inl ⟨_, rfl⟩) dX8_doActions_1 e1 ?_
  refine tj_lload_n ok 1 dX8_doActions_4 rfl rfl ?_
  refine tj_lload_n ok 2 dX8_doActions_5 rfl rfl ?_
  refine tj_lload ok 3 dX8_doActions_6 rfl ?_
  refine tj_callV (rest := ([] : List TV).map (vl g)) (as := [.inr (.inl (a1)), .inr (.inl (a3)), .inr (.inl (a5))]) ok lev (by omega) fcX2.1 (by decide) rfl (of_if e2).1 (k3 g) (CaX.of en (by omega)) kn_X2_set wm_358 wm_266 wm_267 (rs_ok (Nat.le_of_ble_eq_true rfl)) rfl rfl dX8_doActions_8 ?_
  refine tj_aload_n ok 0 dX8_doActions_11 rfl rfl ?_
  refine tj_getR (k := 0) ok fcX8 (by decide) wm_177 rfl (Or.inl ⟨_, rfl⟩) dX8_doActions_12 e4 ?_
  refine tj_iload ok 4 dX8_doActions_15 rfl ?_
  refine tj_callV (rest := ([] : List TV).map (vl g)) (as := [.inl (a7)]) ok lev (by omega) fcX2.1 (by decide) rfl (of_if e5).1 (k6 g) (CaX.of en (by omega)) kn_X2_canAct wm_365 wm_366 wm_367 (rs_ok (Nat.le_of_ble_eq_true rfl)) rfl rfl dX8_doActions_17 ?_
  refine tj_if_ne (tgt := 25) ok dX8_doActions_20 (by decide) (fun hc => ?_) (fun hc => ?_)
  · rw [if_neg hc] at hf
    exact (q_X8_doActions_25 hrc hf).2 X g K ok nmx lev hK en
  · rw [if_pos hc] at hf
    refine tj_sub (lv' := []) [] rfl ?_
    exact (q_X8_doActions_23 hrc hf).2 X g K ok nmx lev hK en
def f_X8_doActions (rc : Nat → Int64 → Int64 → Int64 → Int32 → AH → Option (AH)) (a0 : Nat) (a1 : Int64) (a3 : Int64) (a5 : Int64) (a7 : Int32) (a8 : Int32) (h : AH) : Option (Int32 × AH) := b_X8_doActions_0 rc  a0 a1 a3 a5 a7 a8 h
theorem c_X8_doActions {rc : Nat → Int64 → Int64 → Int64 → Int32 → AH → Option (AH)} {kd : Nat} (hrc : ∀ {c0 : Nat} {c1 : Int64} {c2 : Int64} {c3 : Int64} {c4 : Int32} {h h1 : AH} , rc c0 c1 c2 c3 c4 h = some h1 → ∀ g : GT, CM g (kd) yX8_visit cX8_visit 13 none h [.inr (.inr (c0)), .inr (.inl (c1)), .inr (.inl (c2)), .inr (.inl (c3)), .inl (c4)] h1 none) {a0 : Nat} {a1 : Int64} {a3 : Int64} {a5 : Int64} {a7 : Int32} {a8 : Int32} {h hE : AH} {v : Int32} (hf : f_X8_doActions rc a0 a1 a3 a5 a7 a8 h = some (v, hE)) : ∀ g : GT, CM g (kd + 5) yX8_doActions cX8_doActions 11 (some .boolean) h [.inr (.inr (a0)), .inr (.inl (a1)), .inr (.inl (a3)), .inr (.inl (a5)), .inl (a7), .inl (a8)] hE (some (.inl (v))) :=
  CM.ofJ (by decide) (by show _ ≤ 11; exact Nat.le_of_ble_eq_true rfl) (q_X8_doActions_0 hrc hf)
/-! ===== LitmusHouse$Search.doEmptying(JJJII)Z ===== -/
def b_X8_doEmptying_25 (rc : Nat → Int64 → Int64 → Int64 → Int32 → AH → Option (AH)) (a0 : Nat) (a7 : Int32) (a8 : Int32) (h : AH) : Option (Int32 × AH) :=
  (g_r h a0 8 0).bind fun x1 => (ok_v h x1 2).bind fun x2 => (f_X2_emptyFirst x1 a7 h).bind fun h3 => (g_r h3 a0 8 0).bind fun x4 => (g_j h3 x4 2 0).bind fun x5 => (g_r h3 a0 8 0).bind fun x6 => (g_j h3 x6 2 1).bind fun x7 => (g_r h3 a0 8 0).bind fun x8 => (g_j h3 x8 2 2).bind fun x9 => (ok_v h3 a0 8).bind fun x10 => (rc a0 x5 x7 x9 (a8 + (1 : Int32)) h3).bind fun h11 => ok_z (1 : Int32) h11
set_option maxHeartbeats 4000000 in
set_option maxRecDepth 100000 in
theorem q_X8_doEmptying_25 {rc : Nat → Int64 → Int64 → Int64 → Int32 → AH → Option (AH)} {kd : Nat} (hrc : ∀ {c0 : Nat} {c1 : Int64} {c2 : Int64} {c3 : Int64} {c4 : Int32} {h h1 : AH} , rc c0 c1 c2 c3 c4 h = some h1 → ∀ g : GT, CM g (kd) yX8_visit cX8_visit 13 none h [.inr (.inr (c0)), .inr (.inl (c1)), .inr (.inl (c2)), .inr (.inl (c3)), .inl (c4)] h1 none) {a0 : Nat} {a7 : Int32} {a8 : Int32} {h hE : AH} {v : Int32} (hf : b_X8_doEmptying_25 rc a0 a7 a8 h = some (v, hE)) : JD cX8_doEmptying 9 RX8 "doEmptying" (some .boolean) (kd + 4) 25 [(0, .inr (.inr (a0))), (7, .inl (a7)), (8, .inl (a8))] [] h hE (some (.inl (v))) := by
  unfold b_X8_doEmptying_25 at hf
  obtain ⟨x1, e1, hf⟩ := bnd hf
  obtain ⟨x2, e2, hf⟩ := bnd hf
  obtain ⟨h3, e3, hf⟩ := bnd hf
  have k3 := c_X2_emptyFirst e3
  have m3 := (k3 default_g).1
  obtain ⟨x4, e4, hf⟩ := bnd hf
  obtain ⟨x5, e5, hf⟩ := bnd hf
  obtain ⟨x6, e6, hf⟩ := bnd hf
  obtain ⟨x7, e7, hf⟩ := bnd hf
  obtain ⟨x8, e8, hf⟩ := bnd hf
  obtain ⟨x9, e9, hf⟩ := bnd hf
  obtain ⟨x10, e10, hf⟩ := bnd hf
  obtain ⟨h11, e11, hf⟩ := bnd hf
  have k11 := hrc e11
  have m11 := (k11 default_g).1
  have mE : hp_n h11 ≤ hp_n hE ∧ hp_s h11 ≤ hp_s hE := by obtain ⟨-, q⟩ := of_if hf; cases q; exact ⟨Nat.le_refl _, Nat.le_refl _⟩
  refine ⟨by omega, fun X g K ok nmx lev hK en => ?_⟩
  refine tj_aload_n ok 0 dX8_doEmptying_25 rfl rfl ?_
  refine tj_getR (k := 0) ok fcX8 (by decide) wm_177 rfl (Or.inl ⟨_, rfl⟩) dX8_doEmptying_26 e1 ?_
  refine tj_iload ok 1 dX8_doEmptying_29 rfl ?_
  refine tj_callV (rest := ([] : List TV).map (vl g)) (as := [.inl (a7)]) ok lev (by omega) fcX2.1 (by decide) rfl (of_if e2).1 (k3 g) (CaX.of en (by omega)) kn_X2_emptyFirst wm_370 wm_371 wm_372 (rs_ok (Nat.le_of_ble_eq_true rfl)) rfl rfl dX8_doEmptying_31 ?_
  refine tj_aload_n ok 0 dX8_doEmptying_34 rfl rfl ?_
  refine tj_aload_n ok 0 dX8_doEmptying_35 rfl rfl ?_
  refine tj_getR (k := 0) ok fcX8 (by decide) wm_177 rfl (Or.inl ⟨_, rfl⟩) dX8_doEmptying_36 e4 ?_
  refine tj_getJ (k := 0) ok fcX2 (by decide) wm_352 rfl rfl dX8_doEmptying_39 e5 ?_
  refine tj_aload_n ok 0 dX8_doEmptying_42 rfl rfl ?_
  refine tj_getR (k := 0) ok fcX8 (by decide) wm_177 rfl (Or.inl ⟨_, rfl⟩) dX8_doEmptying_43 e6 ?_
  refine tj_getJ (k := 1) ok fcX2 (by decide) wm_353 rfl rfl dX8_doEmptying_46 e7 ?_
  refine tj_aload_n ok 0 dX8_doEmptying_49 rfl rfl ?_
  refine tj_getR (k := 0) ok fcX8 (by decide) wm_177 rfl (Or.inl ⟨_, rfl⟩) dX8_doEmptying_50 e8 ?_
  refine tj_getJ (k := 2) ok fcX2 (by decide) wm_354 rfl rfl dX8_doEmptying_53 e9 ?_
  refine tj_iload ok 2 dX8_doEmptying_56 rfl ?_
  refine tj_iconst (v := 1) ok dX8_doEmptying_58 (by decide) ?_
  refine tj_iadd ok dX8_doEmptying_59 ?_
  refine tj_callV (rest := ([] : List TV).map (vl g)) (as := [.inr (.inl (x5)), .inr (.inl (x7)), .inr (.inl (x9)), .inl (a8 + (1 : Int32))]) ok lev (by omega) fcX8.1 (by decide) rfl (of_if e10).1 (k11 g) (CaX.of en (by omega)) kn_X8_visit wm_355 wm_356 wm_357 (rs_ok (Nat.le_of_ble_eq_true rfl)) rfl rfl dX8_doEmptying_60 ?_
  refine tj_iconst (v := 1) ok dX8_doEmptying_63 (by decide) ?_
  exact tj_zreturn ok hf en dX8_doEmptying_64
def b_X8_doEmptying_23 (rc : Nat → Int64 → Int64 → Int64 → Int32 → AH → Option (AH))  (h : AH) : Option (Int32 × AH) :=
  ok_z (0 : Int32) h
set_option maxHeartbeats 4000000 in
set_option maxRecDepth 100000 in
theorem q_X8_doEmptying_23 {rc : Nat → Int64 → Int64 → Int64 → Int32 → AH → Option (AH)} {kd : Nat} (hrc : ∀ {c0 : Nat} {c1 : Int64} {c2 : Int64} {c3 : Int64} {c4 : Int32} {h h1 : AH} , rc c0 c1 c2 c3 c4 h = some h1 → ∀ g : GT, CM g (kd) yX8_visit cX8_visit 13 none h [.inr (.inr (c0)), .inr (.inl (c1)), .inr (.inl (c2)), .inr (.inl (c3)), .inl (c4)] h1 none) {h hE : AH} {v : Int32} (hf : b_X8_doEmptying_23 rc  h = some (v, hE)) : JD cX8_doEmptying 9 RX8 "doEmptying" (some .boolean) (kd + 4) 23 [] [] h hE (some (.inl (v))) := by
  unfold b_X8_doEmptying_23 at hf
  have mE : hp_n h ≤ hp_n hE ∧ hp_s h ≤ hp_s hE := by obtain ⟨-, q⟩ := of_if hf; cases q; exact ⟨Nat.le_refl _, Nat.le_refl _⟩
  refine ⟨by omega, fun X g K ok nmx lev hK en => ?_⟩
  refine tj_iconst (v := 0) ok dX8_doEmptying_23 (by decide) ?_
  exact tj_zreturn ok hf en dX8_doEmptying_24
def b_X8_doEmptying_0 (rc : Nat → Int64 → Int64 → Int64 → Int32 → AH → Option (AH)) (a0 : Nat) (a1 : Int64) (a3 : Int64) (a5 : Int64) (a7 : Int32) (a8 : Int32) (h : AH) : Option (Int32 × AH) :=
  (g_r h a0 8 0).bind fun x1 => (ok_v h x1 2).bind fun x2 => (f_X2_set x1 a1 a3 a5 h).bind fun h3 => (g_r h3 a0 8 0).bind fun x4 => (ok_v h3 x4 2).bind fun x5 => (f_X2_hasQueue x4 a7 h3).bind fun q6 => if q6.1 = 0 then b_X8_doEmptying_23 rc q6.2 else b_X8_doEmptying_25 rc a0 a7 a8 q6.2
set_option maxHeartbeats 4000000 in
set_option maxRecDepth 100000 in
theorem q_X8_doEmptying_0 {rc : Nat → Int64 → Int64 → Int64 → Int32 → AH → Option (AH)} {kd : Nat} (hrc : ∀ {c0 : Nat} {c1 : Int64} {c2 : Int64} {c3 : Int64} {c4 : Int32} {h h1 : AH} , rc c0 c1 c2 c3 c4 h = some h1 → ∀ g : GT, CM g (kd) yX8_visit cX8_visit 13 none h [.inr (.inr (c0)), .inr (.inl (c1)), .inr (.inl (c2)), .inr (.inl (c3)), .inl (c4)] h1 none) {a0 : Nat} {a1 : Int64} {a3 : Int64} {a5 : Int64} {a7 : Int32} {a8 : Int32} {h hE : AH} {v : Int32} (hf : b_X8_doEmptying_0 rc a0 a1 a3 a5 a7 a8 h = some (v, hE)) : JD cX8_doEmptying 9 RX8 "doEmptying" (some .boolean) (kd + 4) 0 [(0, .inr (.inr (a0))), (1, .inr (.inl (a1))), (3, .inr (.inl (a3))), (5, .inr (.inl (a5))), (7, .inl (a7)), (8, .inl (a8))] [] h hE (some (.inl (v))) := by
  unfold b_X8_doEmptying_0 at hf
  obtain ⟨x1, e1, hf⟩ := bnd hf
  obtain ⟨x2, e2, hf⟩ := bnd hf
  obtain ⟨h3, e3, hf⟩ := bnd hf
  have k3 := c_X2_set e3
  have m3 := (k3 default_g).1
  obtain ⟨x4, e4, hf⟩ := bnd hf
  obtain ⟨x5, e5, hf⟩ := bnd hf
  obtain ⟨⟨x6, h6⟩, e6, hf⟩ := bnd hf
  try dsimp only at hf
  have k6 := c_X2_hasQueue e6
  have m6 := (k6 default_g).1
  have mE : hp_n h6 ≤ hp_n hE ∧ hp_s h6 ≤ hp_s hE := by
    by_cases hc : x6 = 0
    · rw [if_pos hc] at hf; exact (q_X8_doEmptying_23 hrc hf).1
    · rw [if_neg hc] at hf; exact (q_X8_doEmptying_25 hrc hf).1
  refine ⟨by omega, fun X g K ok nmx lev hK en => ?_⟩
  refine tj_aload_n ok 0 dX8_doEmptying_0 rfl rfl ?_
  refine tj_getR (k := 0) ok fcX8 (by decide) wm_177 rfl (Or.inl ⟨_, rfl⟩) dX8_doEmptying_1 e1 ?_
  refine tj_lload_n ok 1 dX8_doEmptying_4 rfl rfl ?_
  refine tj_lload_n ok 2 dX8_doEmptying_5 rfl rfl ?_
  refine tj_lload ok 3 dX8_doEmptying_6 rfl ?_
  refine tj_callV (rest := ([] : List TV).map (vl g)) (as := [.inr (.inl (a1)), .inr (.inl (a3)), .inr (.inl (a5))]) ok lev (by omega) fcX2.1 (by decide) rfl (of_if e2).1 (k3 g) (CaX.of en (by omega)) kn_X2_set wm_358 wm_266 wm_267 (rs_ok (Nat.le_of_ble_eq_true rfl)) rfl rfl dX8_doEmptying_8 ?_
  refine tj_aload_n ok 0 dX8_doEmptying_11 rfl rfl ?_
  refine tj_getR (k := 0) ok fcX8 (by decide) wm_177 rfl (Or.inl ⟨_, rfl⟩) dX8_doEmptying_12 e4 ?_
  refine tj_iload ok 4 dX8_doEmptying_15 rfl ?_
  refine tj_callV (rest := ([] : List TV).map (vl g)) (as := [.inl (a7)]) ok lev (by omega) fcX2.1 (by decide) rfl (of_if e5).1 (k6 g) (CaX.of en (by omega)) kn_X2_hasQueue wm_373 wm_345 wm_346 (rs_ok (Nat.le_of_ble_eq_true rfl)) rfl rfl dX8_doEmptying_17 ?_
  refine tj_if_ne (tgt := 25) ok dX8_doEmptying_20 (by decide) (fun hc => ?_) (fun hc => ?_)
  · rw [if_neg hc] at hf
    refine tj_sub (lv' := [(0, .inr (.inr (a0))), (7, .inl (a7)), (8, .inl (a8))]) [0, 4, 5] rfl ?_
    exact (q_X8_doEmptying_25 hrc hf).2 X g K ok nmx lev hK en
  · rw [if_pos hc] at hf
    refine tj_sub (lv' := []) [] rfl ?_
    exact (q_X8_doEmptying_23 hrc hf).2 X g K ok nmx lev hK en
def f_X8_doEmptying (rc : Nat → Int64 → Int64 → Int64 → Int32 → AH → Option (AH)) (a0 : Nat) (a1 : Int64) (a3 : Int64) (a5 : Int64) (a7 : Int32) (a8 : Int32) (h : AH) : Option (Int32 × AH) := b_X8_doEmptying_0 rc  a0 a1 a3 a5 a7 a8 h
theorem c_X8_doEmptying {rc : Nat → Int64 → Int64 → Int64 → Int32 → AH → Option (AH)} {kd : Nat} (hrc : ∀ {c0 : Nat} {c1 : Int64} {c2 : Int64} {c3 : Int64} {c4 : Int32} {h h1 : AH} , rc c0 c1 c2 c3 c4 h = some h1 → ∀ g : GT, CM g (kd) yX8_visit cX8_visit 13 none h [.inr (.inr (c0)), .inr (.inl (c1)), .inr (.inl (c2)), .inr (.inl (c3)), .inl (c4)] h1 none) {a0 : Nat} {a1 : Int64} {a3 : Int64} {a5 : Int64} {a7 : Int32} {a8 : Int32} {h hE : AH} {v : Int32} (hf : f_X8_doEmptying rc a0 a1 a3 a5 a7 a8 h = some (v, hE)) : ∀ g : GT, CM g (kd + 4) yX8_doEmptying cX8_doEmptying 9 (some .boolean) h [.inr (.inr (a0)), .inr (.inl (a1)), .inr (.inl (a3)), .inr (.inl (a5)), .inl (a7), .inl (a8)] hE (some (.inl (v))) :=
  CM.ofJ (by decide) (by show _ ≤ 9; exact Nat.le_of_ble_eq_true rfl) (q_X8_doEmptying_0 hrc hf)
/-! ===== LitmusHouse$Search.noteOrder()V ===== -/
def b_X8_noteOrder_46 (a0 : Nat) (a2 : Int64) (h : AH) : Option (AH) :=
  (g_r h a0 8 7).bind fun x1 => (g_j h x1 5 2).bind fun x2 => (p_j h x1 5 2 (x2 ||| a2)).bind fun h3 => (g_r h3 a0 8 7).bind fun x4 => (g_j h3 x4 5 3).bind fun x5 => (g_r h3 a0 8 0).bind fun x6 => (g_j h3 x6 2 2).bind fun x7 => (p_j h3 x4 5 3 (x5 ||| x7)).bind fun h8 => (g_r h8 a0 8 7).bind fun x9 => (g_j h8 x9 5 4).bind fun x10 => (g_r h8 a0 8 0).bind fun x11 => (g_j h8 x11 2 2).bind fun x12 => (p_j h8 x9 5 4 (x10 ||| (a2 &&& (x12 ^^^ (-1 : Int64))))).bind fun h13 => some h13
set_option maxHeartbeats 4000000 in
set_option maxRecDepth 100000 in
theorem q_X8_noteOrder_46 {a0 : Nat} {a2 : Int64} {h hE : AH} (hf : b_X8_noteOrder_46 a0 a2 h = some hE) : JD cX8_noteOrder 5 RX8 "noteOrder" none (3) 46 [(0, .inr (.inr (a0))), (2, .inr (.inl (a2)))] [] h hE none := by
  unfold b_X8_noteOrder_46 at hf
  obtain ⟨x1, e1, hf⟩ := bnd hf
  obtain ⟨x2, e2, hf⟩ := bnd hf
  obtain ⟨h3, e3, hf⟩ := bnd hf
  have m3 := nn_pj e3
  obtain ⟨x4, e4, hf⟩ := bnd hf
  obtain ⟨x5, e5, hf⟩ := bnd hf
  obtain ⟨x6, e6, hf⟩ := bnd hf
  obtain ⟨x7, e7, hf⟩ := bnd hf
  obtain ⟨h8, e8, hf⟩ := bnd hf
  have m8 := nn_pj e8
  obtain ⟨x9, e9, hf⟩ := bnd hf
  obtain ⟨x10, e10, hf⟩ := bnd hf
  obtain ⟨x11, e11, hf⟩ := bnd hf
  obtain ⟨x12, e12, hf⟩ := bnd hf
  obtain ⟨h13, e13, hf⟩ := bnd hf
  have m13 := nn_pj e13
  have hh := Option.some.inj hf
  subst hh
  have mE : hp_n h13 ≤ hp_n h13 ∧ hp_s h13 ≤ hp_s h13 := ⟨Nat.le_refl _, Nat.le_refl _⟩
  refine ⟨by omega, fun X g K ok nmx lev hK en => ?_⟩
  refine tj_aload_n ok 0 dX8_noteOrder_46 rfl rfl ?_
  refine tj_getR (k := 7) ok fcX8 (by decide) wm_190 rfl (Or.inl ⟨_, rfl⟩) dX8_noteOrder_47 e1 ?_
  refine tj_dupa ok dX8_noteOrder_50 ?_
  refine tj_getJ (k := 2) ok fcX5 (by decide) wm_387 rfl rfl dX8_noteOrder_51 e2 ?_
  refine tj_lload_n ok 1 dX8_noteOrder_54 rfl rfl ?_
  refine tj_lor ok dX8_noteOrder_55 ?_
  refine tj_putJ (k := 2) ok fcX5 (by decide) wm_387 rfl (Or.inl rfl) rfl dX8_noteOrder_56 e3 ?_
  refine tj_aload_n ok 0 dX8_noteOrder_59 rfl rfl ?_
  refine tj_getR (k := 7) ok fcX8 (by decide) wm_190 rfl (Or.inl ⟨_, rfl⟩) dX8_noteOrder_60 e4 ?_
  refine tj_dupa ok dX8_noteOrder_63 ?_
  refine tj_getJ (k := 3) ok fcX5 (by decide) wm_388 rfl rfl dX8_noteOrder_64 e5 ?_
  refine tj_aload_n ok 0 dX8_noteOrder_67 rfl rfl ?_
  refine tj_getR (k := 0) ok fcX8 (by decide) wm_177 rfl (Or.inl ⟨_, rfl⟩) dX8_noteOrder_68 e6 ?_
  refine tj_getJ (k := 2) ok fcX2 (by decide) wm_354 rfl rfl dX8_noteOrder_71 e7 ?_
  refine tj_lor ok dX8_noteOrder_74 ?_
  refine tj_putJ (k := 3) ok fcX5 (by decide) wm_388 rfl (Or.inl rfl) rfl dX8_noteOrder_75 e8 ?_
  refine tj_aload_n ok 0 dX8_noteOrder_78 rfl rfl ?_
  refine tj_getR (k := 7) ok fcX8 (by decide) wm_190 rfl (Or.inl ⟨_, rfl⟩) dX8_noteOrder_79 e9 ?_
  refine tj_dupa ok dX8_noteOrder_82 ?_
  refine tj_getJ (k := 4) ok fcX5 (by decide) wm_389 rfl rfl dX8_noteOrder_83 e10 ?_
  refine tj_lload_n ok 1 dX8_noteOrder_86 rfl rfl ?_
  refine tj_aload_n ok 0 dX8_noteOrder_87 rfl rfl ?_
  refine tj_getR (k := 0) ok fcX8 (by decide) wm_177 rfl (Or.inl ⟨_, rfl⟩) dX8_noteOrder_88 e11 ?_
  refine tj_getJ (k := 2) ok fcX2 (by decide) wm_354 rfl rfl dX8_noteOrder_91 e12 ?_
  refine tj_ldc2 (v := -1) ok dX8_noteOrder_94 wm_390 ?_
  refine tj_lxor ok dX8_noteOrder_97 ?_
  refine tj_land ok dX8_noteOrder_98 ?_
  refine tj_lor ok dX8_noteOrder_99 ?_
  refine tj_putJ (k := 4) ok fcX5 (by decide) wm_389 rfl (Or.inl rfl) rfl dX8_noteOrder_100 e13 ?_
  exact tj_return ok en dX8_noteOrder_103
def b_X8_noteOrder_40 (r13 : Nat → Int32 → Int64 → Int32 → AH → Option (AH)) (a0 : Nat) (a1 : Int32) (a2 : Int64) (a4 : Int32) (h : AH) : Option (AH) :=
  r13 a0 a1 a2 (a4 + (1 : Int32)) h
set_option maxHeartbeats 4000000 in
set_option maxRecDepth 100000 in
theorem q_X8_noteOrder_40 {hE : AH} {r13 : Nat → Int32 → Int64 → Int32 → AH → Option (AH)} (hr13 : ∀ (b0 : Nat) (b1 : Int32) (b2 : Int64) (b4 : Int32) (h : AH), r13 b0 b1 b2 b4 h = some hE → JD cX8_noteOrder 5 RX8 "noteOrder" none (3) 13 [(0, .inr (.inr (b0))), (1, .inl (b1)), (2, .inr (.inl (b2))), (4, .inl (b4))] [] h hE none) {a0 : Nat} {a1 : Int32} {a2 : Int64} {a4 : Int32} {h : AH} (hf : b_X8_noteOrder_40 r13 a0 a1 a2 a4 h = some hE) : JD cX8_noteOrder 5 RX8 "noteOrder" none (3) 40 [(0, .inr (.inr (a0))), (1, .inl (a1)), (2, .inr (.inl (a2))), (4, .inl (a4))] [] h hE none := by
  unfold b_X8_noteOrder_40 at hf
  have J := hr13 _ _ _ _ _ hf
  have mE := J.1
  refine ⟨by omega, fun X g K ok nmx lev hK en => ?_⟩
  refine tj_iinc (lv' := [(0, .inr (.inr (a0))), (1, .inl (a1)), (2, .inr (.inl (a2))), (4, .inl (a4 + (1 : Int32)))]) ok 3 dX8_noteOrder_40 rfl (rfl) (by decide) rfl ?_
  refine tj_goto (tgt := 13) ok dX8_noteOrder_43 (by decide) ?_
  exact J.2 X g K ok nmx lev hK en
def b_X8_noteOrder_29 (r13 : Nat → Int32 → Int64 → Int32 → AH → Option (AH)) (a0 : Nat) (a1 : Int32) (a2 : Int64) (a4 : Int32) (h : AH) : Option (AH) :=
  b_X8_noteOrder_40 r13 a0 a1 (a2 ||| (a1.toInt64 <<< (((8 : Int32) * a4).toInt64 &&& 63))) a4 h
set_option maxHeartbeats 4000000 in
set_option maxRecDepth 100000 in
theorem q_X8_noteOrder_29 {hE : AH} {r13 : Nat → Int32 → Int64 → Int32 → AH → Option (AH)} (hr13 : ∀ (b0 : Nat) (b1 : Int32) (b2 : Int64) (b4 : Int32) (h : AH), r13 b0 b1 b2 b4 h = some hE → JD cX8_noteOrder 5 RX8 "noteOrder" none (3) 13 [(0, .inr (.inr (b0))), (1, .inl (b1)), (2, .inr (.inl (b2))), (4, .inl (b4))] [] h hE none) {a0 : Nat} {a1 : Int32} {a2 : Int64} {a4 : Int32} {h : AH} (hf : b_X8_noteOrder_29 r13 a0 a1 a2 a4 h = some hE) : JD cX8_noteOrder 5 RX8 "noteOrder" none (3) 29 [(0, .inr (.inr (a0))), (1, .inl (a1)), (2, .inr (.inl (a2))), (4, .inl (a4))] [] h hE none := by
  unfold b_X8_noteOrder_29 at hf
  have J := q_X8_noteOrder_40 hr13 hf
  have mE := J.1
  refine ⟨by omega, fun X g K ok nmx lev hK en => ?_⟩
  refine tj_lload_n ok 2 dX8_noteOrder_29 rfl rfl ?_
  refine tj_iload_n ok 1 dX8_noteOrder_30 rfl rfl ?_
  refine tj_i2l ok dX8_noteOrder_31 ?_
  refine tj_bipush (v := 8) ok dX8_noteOrder_32 (by decide) ?_
  refine tj_iload ok 3 dX8_noteOrder_34 rfl ?_
  refine tj_imul ok dX8_noteOrder_36 ?_
  refine tj_lshl ok dX8_noteOrder_37 ?_
  refine tj_lor ok dX8_noteOrder_38 ?_
  refine tj_lstore_n (lv' := [(0, .inr (.inr (a0))), (1, .inl (a1)), (2, .inr (.inl (a2 ||| (a1.toInt64 <<< (((8 : Int32) * a4).toInt64 &&& 63))))), (4, .inl (a4))]) ok dX8_noteOrder_39 rfl (by decide) rfl ?_
  exact J.2 X g K ok nmx lev hK en
def b_X8_noteOrder_20 (r13 : Nat → Int32 → Int64 → Int32 → AH → Option (AH)) (a0 : Nat) (a1 : Int32) (a2 : Int64) (a4 : Int32) (h : AH) : Option (AH) :=
  if ((a1 >>> (a4 &&& 31)) &&& (1 : Int32)) = 0 then b_X8_noteOrder_40 r13 a0 a1 a2 a4 h else b_X8_noteOrder_29 r13 a0 a1 a2 a4 h
set_option maxHeartbeats 4000000 in
set_option maxRecDepth 100000 in
theorem q_X8_noteOrder_20 {hE : AH} {r13 : Nat → Int32 → Int64 → Int32 → AH → Option (AH)} (hr13 : ∀ (b0 : Nat) (b1 : Int32) (b2 : Int64) (b4 : Int32) (h : AH), r13 b0 b1 b2 b4 h = some hE → JD cX8_noteOrder 5 RX8 "noteOrder" none (3) 13 [(0, .inr (.inr (b0))), (1, .inl (b1)), (2, .inr (.inl (b2))), (4, .inl (b4))] [] h hE none) {a0 : Nat} {a1 : Int32} {a2 : Int64} {a4 : Int32} {h : AH} (hf : b_X8_noteOrder_20 r13 a0 a1 a2 a4 h = some hE) : JD cX8_noteOrder 5 RX8 "noteOrder" none (3) 20 [(0, .inr (.inr (a0))), (1, .inl (a1)), (2, .inr (.inl (a2))), (4, .inl (a4))] [] h hE none := by
  unfold b_X8_noteOrder_20 at hf
  have mE : hp_n h ≤ hp_n hE ∧ hp_s h ≤ hp_s hE := by
    by_cases hc : ((a1 >>> (a4 &&& 31)) &&& (1 : Int32)) = 0
    · rw [if_pos hc] at hf; exact (q_X8_noteOrder_40 hr13 hf).1
    · rw [if_neg hc] at hf; exact (q_X8_noteOrder_29 hr13 hf).1
  refine ⟨by omega, fun X g K ok nmx lev hK en => ?_⟩
  refine tj_iload_n ok 1 dX8_noteOrder_20 rfl rfl ?_
  refine tj_iload ok 3 dX8_noteOrder_21 rfl ?_
  refine tj_ishr ok dX8_noteOrder_23 ?_
  refine tj_iconst (v := 1) ok dX8_noteOrder_24 (by decide) ?_
  refine tj_iand ok dX8_noteOrder_25 ?_
  refine tj_if_eq (tgt := 40) ok dX8_noteOrder_26 (by decide) (fun hc => ?_) (fun hc => ?_)
  · rw [if_pos hc] at hf
    exact (q_X8_noteOrder_40 hr13 hf).2 X g K ok nmx lev hK en
  · rw [if_neg hc] at hf
    exact (q_X8_noteOrder_29 hr13 hf).2 X g K ok nmx lev hK en
def b_X8_noteOrder_13 (r13 : Nat → Int32 → Int64 → Int32 → AH → Option (AH)) (a0 : Nat) (a1 : Int32) (a2 : Int64) (a4 : Int32) (h : AH) : Option (AH) :=
  if (8 : Int32) ≤ a4 then b_X8_noteOrder_46 a0 a2 h else b_X8_noteOrder_20 r13 a0 a1 a2 a4 h
set_option maxHeartbeats 4000000 in
set_option maxRecDepth 100000 in
theorem q_X8_noteOrder_13 {hE : AH} {r13 : Nat → Int32 → Int64 → Int32 → AH → Option (AH)} (hr13 : ∀ (b0 : Nat) (b1 : Int32) (b2 : Int64) (b4 : Int32) (h : AH), r13 b0 b1 b2 b4 h = some hE → JD cX8_noteOrder 5 RX8 "noteOrder" none (3) 13 [(0, .inr (.inr (b0))), (1, .inl (b1)), (2, .inr (.inl (b2))), (4, .inl (b4))] [] h hE none) {a0 : Nat} {a1 : Int32} {a2 : Int64} {a4 : Int32} {h : AH} (hf : b_X8_noteOrder_13 r13 a0 a1 a2 a4 h = some hE) : JD cX8_noteOrder 5 RX8 "noteOrder" none (3) 13 [(0, .inr (.inr (a0))), (1, .inl (a1)), (2, .inr (.inl (a2))), (4, .inl (a4))] [] h hE none := by
  unfold b_X8_noteOrder_13 at hf
  have mE : hp_n h ≤ hp_n hE ∧ hp_s h ≤ hp_s hE := by
    by_cases hc : (8 : Int32) ≤ a4
    · rw [if_pos hc] at hf; exact (q_X8_noteOrder_46 hf).1
    · rw [if_neg hc] at hf; exact (q_X8_noteOrder_20 hr13 hf).1
  refine ⟨by omega, fun X g K ok nmx lev hK en => ?_⟩
  refine tj_iload ok 3 dX8_noteOrder_13 rfl ?_
  refine tj_bipush (v := 8) ok dX8_noteOrder_15 (by decide) ?_
  refine tj_icmp_ge (tgt := 46) ok dX8_noteOrder_17 (by decide) (fun hc => ?_) (fun hc => ?_)
  · rw [if_pos hc] at hf
    refine tj_sub (lv' := [(0, .inr (.inr (a0))), (2, .inr (.inl (a2)))]) [0, 2] rfl ?_
    exact (q_X8_noteOrder_46 hf).2 X g K ok nmx lev hK en
  · rw [if_neg hc] at hf
    exact (q_X8_noteOrder_20 hr13 hf).2 X g K ok nmx lev hK en
def l_X8_noteOrder_13 : Nat → Nat → Int32 → Int64 → Int32 → AH → Option (AH)
  | 0 => fun _ _ _ _ _ => none
  | n + 1 => fun a0 a1 a2 a4 h => b_X8_noteOrder_13 (l_X8_noteOrder_13 n) a0 a1 a2 a4 h
theorem ql_X8_noteOrder_13 {n : Nat} {a0 : Nat} {a1 : Int32} {a2 : Int64} {a4 : Int32} {h hE : AH} (hf : l_X8_noteOrder_13 n a0 a1 a2 a4 h = some hE) : JD cX8_noteOrder 5 RX8 "noteOrder" none (3) 13 [(0, .inr (.inr (a0))), (1, .inl (a1)), (2, .inr (.inl (a2))), (4, .inl (a4))] [] h hE none := by
  induction n generalizing a0 a1 a2 a4 h with
  | zero => cases hf
  | succ n ih => exact q_X8_noteOrder_13 (fun _ _ _ _ _ hf => ih hf) hf
def b_X8_noteOrder_0 (a0 : Nat) (h : AH) : Option (AH) :=
  (g_r h a0 8 0).bind fun x1 => (ok_v h x1 2).bind fun x2 => (f_X2_doneActions x1 h).bind fun q3 => l_X8_noteOrder_13 fu_ a0 q3.1 (0 : Int64) (0 : Int32) q3.2
set_option maxHeartbeats 4000000 in
set_option maxRecDepth 100000 in
theorem q_X8_noteOrder_0 {a0 : Nat} {h hE : AH} (hf : b_X8_noteOrder_0 a0 h = some hE) : JD cX8_noteOrder 5 RX8 "noteOrder" none (3) 0 [(0, .inr (.inr (a0)))] [] h hE none := by
  unfold b_X8_noteOrder_0 at hf
  obtain ⟨x1, e1, hf⟩ := bnd hf
  obtain ⟨x2, e2, hf⟩ := bnd hf
  obtain ⟨⟨x3, h3⟩, e3, hf⟩ := bnd hf
  try dsimp only at hf
  have k3 := c_X2_doneActions e3
  have m3 := (k3 default_g).1
  have J := ql_X8_noteOrder_13 hf
  have mE := J.1
  refine ⟨by omega, fun X g K ok nmx lev hK en => ?_⟩
  refine tj_aload_n ok 0 dX8_noteOrder_0 rfl rfl ?_
  refine tj_getR (k := 0) ok fcX8 (by decide) wm_177 rfl (Or.inl ⟨_, rfl⟩) dX8_noteOrder_1 e1 ?_
  refine tj_callV (rest := ([] : List TV).map (vl g)) (as := []) ok lev (by omega) fcX2.1 (by decide) rfl (of_if e2).1 (k3 g) (CaX.of en (by omega)) kn_X2_doneActions wm_391 wm_299 wm_300 (rs_ok (Nat.le_of_ble_eq_true rfl)) rfl rfl dX8_noteOrder_4 ?_
  refine tj_istore_n (lv' := [(0, .inr (.inr (a0))), (1, .inl (x3))]) ok dX8_noteOrder_7 rfl (by decide) rfl ?_
  refine tj_lconst (v := 0) ok dX8_noteOrder_8 (by decide) ?_
  refine tj_lstore_n (lv' := [(0, .inr (.inr (a0))), (1, .inl (x3)), (2, .inr (.inl ((0 : Int64))))]) ok dX8_noteOrder_9 rfl (by decide) rfl ?_
  refine tj_iconst (v := 0) ok dX8_noteOrder_10 (by decide) ?_
  refine tj_istore (lv' := [(0, .inr (.inr (a0))), (1, .inl (x3)), (2, .inr (.inl ((0 : Int64)))), (4, .inl ((0 : Int32)))]) ok dX8_noteOrder_11 (by decide) rfl ?_
  exact J.2 X g K ok nmx lev hK en
def f_X8_noteOrder (a0 : Nat) (h : AH) : Option (AH) := b_X8_noteOrder_0  a0 h
theorem c_X8_noteOrder {a0 : Nat} {h hE : AH} (hf : f_X8_noteOrder a0 h = some hE) : ∀ g : GT, CM g (3) yX8_noteOrder cX8_noteOrder 5 none h [.inr (.inr (a0))] hE none :=
  CM.ofJ (by decide) (by show _ ≤ 5; exact Nat.le_of_ble_eq_true rfl) (q_X8_noteOrder_0 hf)
/-! ===== LitmusHouse$Search.mayRace(II)Z ===== -/
def b_X8_mayRace_141 (s0 : Int32) (h : AH) : Option (Int32 × AH) :=
  ok_z s0 h
set_option maxHeartbeats 4000000 in
set_option maxRecDepth 100000 in
theorem q_X8_mayRace_141 {s0 : Int32} {h hE : AH} {v : Int32} (hf : b_X8_mayRace_141 s0 h = some (v, hE)) : JD cX8_mayRace 6 RX8 "mayRace" (some .boolean) (3) 141 [] [.inl (s0)] h hE (some (.inl (v))) := by
  unfold b_X8_mayRace_141 at hf
  have mE : hp_n h ≤ hp_n hE ∧ hp_s h ≤ hp_s hE := by obtain ⟨-, q⟩ := of_if hf; cases q; exact ⟨Nat.le_refl _, Nat.le_refl _⟩
  refine ⟨by omega, fun X g K ok nmx lev hK en => ?_⟩
  exact tj_zreturn ok hf en dX8_mayRace_141
def b_X8_mayRace_140  (h : AH) : Option (Int32 × AH) :=
  b_X8_mayRace_141 (0 : Int32) h
set_option maxHeartbeats 4000000 in
set_option maxRecDepth 100000 in
theorem q_X8_mayRace_140 {h hE : AH} {v : Int32} (hf : b_X8_mayRace_140  h = some (v, hE)) : JD cX8_mayRace 6 RX8 "mayRace" (some .boolean) (3) 140 [] [] h hE (some (.inl (v))) := by
  unfold b_X8_mayRace_140 at hf
  have J := q_X8_mayRace_141 hf
  have mE := J.1
  refine ⟨by omega, fun X g K ok nmx lev hK en => ?_⟩
  refine tj_iconst (v := 0) ok dX8_mayRace_140 (by decide) ?_
  exact J.2 X g K ok nmx lev hK en
def b_X8_mayRace_136  (h : AH) : Option (Int32 × AH) :=
  b_X8_mayRace_141 (1 : Int32) h
set_option maxHeartbeats 4000000 in
set_option maxRecDepth 100000 in
theorem q_X8_mayRace_136 {h hE : AH} {v : Int32} (hf : b_X8_mayRace_136  h = some (v, hE)) : JD cX8_mayRace 6 RX8 "mayRace" (some .boolean) (3) 136 [] [] h hE (some (.inl (v))) := by
  unfold b_X8_mayRace_136 at hf
  have J := q_X8_mayRace_141 hf
  have mE := J.1
  refine ⟨by omega, fun X g K ok nmx lev hK en => ?_⟩
  refine tj_iconst (v := 1) ok dX8_mayRace_136 (by decide) ?_
  refine tj_goto (tgt := 141) ok dX8_mayRace_137 (by decide) ?_
  exact J.2 X g K ok nmx lev hK en
def b_X8_mayRace_114 (a0 : Nat) (a3 : Nat) (a4 : Int32) (h : AH) : Option (Int32 × AH) :=
  (g_r h a0 8 7).bind fun x1 => (g_r h x1 5 1).bind fun x2 => (g_r h a3 0 4).bind fun x3 => (l_i h x3 a4).bind fun x4 => (l_i h x2 (x4 &&& (7 : Int32))).bind fun x5 => if x5 = (1 : Int32) then b_X8_mayRace_140 h else b_X8_mayRace_136 h
set_option maxHeartbeats 4000000 in
set_option maxRecDepth 100000 in
theorem q_X8_mayRace_114 {a0 : Nat} {a3 : Nat} {a4 : Int32} {h hE : AH} {v : Int32} (hf : b_X8_mayRace_114 a0 a3 a4 h = some (v, hE)) : JD cX8_mayRace 6 RX8 "mayRace" (some .boolean) (3) 114 [(0, .inr (.inr (a0))), (3, .inr (.inr (a3))), (4, .inl (a4))] [] h hE (some (.inl (v))) := by
  unfold b_X8_mayRace_114 at hf
  obtain ⟨x1, e1, hf⟩ := bnd hf
  obtain ⟨x2, e2, hf⟩ := bnd hf
  obtain ⟨x3, e3, hf⟩ := bnd hf
  obtain ⟨x4, e4, hf⟩ := bnd hf
  obtain ⟨x5, e5, hf⟩ := bnd hf
  have mE : hp_n h ≤ hp_n hE ∧ hp_s h ≤ hp_s hE := by
    by_cases hc : x5 = (1 : Int32)
    · rw [if_pos hc] at hf; exact (q_X8_mayRace_140 hf).1
    · rw [if_neg hc] at hf; exact (q_X8_mayRace_136 hf).1
  refine ⟨by omega, fun X g K ok nmx lev hK en => ?_⟩
  refine tj_aload_n ok 0 dX8_mayRace_114 rfl rfl ?_
  refine tj_getR (k := 7) ok fcX8 (by decide) wm_190 rfl (Or.inl ⟨_, rfl⟩) dX8_mayRace_115 e1 ?_
  refine tj_getR (k := 1) ok fcX5 (by decide) wm_393 rfl (Or.inr ⟨_, rfl⟩) dX8_mayRace_118 e2 ?_
  refine tj_aload_n ok 1 dX8_mayRace_121 rfl rfl ?_
  refine tj_getR (k := 4) ok fcX0 (by decide) wm_394 rfl (Or.inr ⟨_, rfl⟩) dX8_mayRace_122 e3 ?_
  refine tj_iload ok 2 dX8_mayRace_125 rfl ?_
  refine tj_iaload ok dX8_mayRace_127 e4 ?_
  refine tj_bipush (v := 7) ok dX8_mayRace_128 (by decide) ?_
  refine tj_iand ok dX8_mayRace_130 ?_
  refine tj_iaload ok dX8_mayRace_131 e5 ?_
  refine tj_iconst (v := 1) ok dX8_mayRace_132 (by decide) ?_
  refine tj_icmp_eq (tgt := 140) ok dX8_mayRace_133 (by decide) (fun hc => ?_) (fun hc => ?_)
  · rw [if_pos hc] at hf
    refine tj_sub (lv' := []) [] rfl ?_
    exact (q_X8_mayRace_140 hf).2 X g K ok nmx lev hK en
  · rw [if_neg hc] at hf
    refine tj_sub (lv' := []) [] rfl ?_
    exact (q_X8_mayRace_136 hf).2 X g K ok nmx lev hK en
def b_X8_mayRace_97 (a0 : Nat) (a3 : Nat) (a4 : Int32) (a5 : Int32) (h : AH) : Option (Int32 × AH) :=
  (g_r h a3 0 4).bind fun x1 => (l_i h x1 a4).bind fun x2 => (g_r h a3 0 4).bind fun x3 => (l_i h x3 a5).bind fun x4 => if x2 = x4 then b_X8_mayRace_114 a0 a3 a4 h else b_X8_mayRace_140 h
set_option maxHeartbeats 4000000 in
set_option maxRecDepth 100000 in
theorem q_X8_mayRace_97 {a0 : Nat} {a3 : Nat} {a4 : Int32} {a5 : Int32} {h hE : AH} {v : Int32} (hf : b_X8_mayRace_97 a0 a3 a4 a5 h = some (v, hE)) : JD cX8_mayRace 6 RX8 "mayRace" (some .boolean) (3) 97 [(0, .inr (.inr (a0))), (3, .inr (.inr (a3))), (4, .inl (a4)), (5, .inl (a5))] [] h hE (some (.inl (v))) := by
  unfold b_X8_mayRace_97 at hf
  obtain ⟨x1, e1, hf⟩ := bnd hf
  obtain ⟨x2, e2, hf⟩ := bnd hf
  obtain ⟨x3, e3, hf⟩ := bnd hf
  obtain ⟨x4, e4, hf⟩ := bnd hf
  have mE : hp_n h ≤ hp_n hE ∧ hp_s h ≤ hp_s hE := by
    by_cases hc : x2 = x4
    · rw [if_pos hc] at hf; exact (q_X8_mayRace_114 hf).1
    · rw [if_neg hc] at hf; exact (q_X8_mayRace_140 hf).1
  refine ⟨by omega, fun X g K ok nmx lev hK en => ?_⟩
  refine tj_aload_n ok 1 dX8_mayRace_97 rfl rfl ?_
  refine tj_getR (k := 4) ok fcX0 (by decide) wm_394 rfl (Or.inr ⟨_, rfl⟩) dX8_mayRace_98 e1 ?_
  refine tj_iload ok 2 dX8_mayRace_101 rfl ?_
  refine tj_iaload ok dX8_mayRace_103 e2 ?_
  refine tj_aload_n ok 1 dX8_mayRace_104 rfl rfl ?_
  refine tj_getR (k := 4) ok fcX0 (by decide) wm_394 rfl (Or.inr ⟨_, rfl⟩) dX8_mayRace_105 e3 ?_
  refine tj_iload ok 3 dX8_mayRace_108 rfl ?_
  refine tj_iaload ok dX8_mayRace_110 e4 ?_
  refine tj_icmp_ne (tgt := 140) ok dX8_mayRace_111 (by decide) (fun hc => ?_) (fun hc => ?_)
  · rw [if_neg hc] at hf
    refine tj_sub (lv' := []) [] rfl ?_
    exact (q_X8_mayRace_140 hf).2 X g K ok nmx lev hK en
  · rw [if_pos hc] at hf
    refine tj_sub (lv' := [(0, .inr (.inr (a0))), (3, .inr (.inr (a3))), (4, .inl (a4))]) [0, 1, 2] rfl ?_
    exact (q_X8_mayRace_114 hf).2 X g K ok nmx lev hK en
def b_X8_mayRace_86 (a0 : Nat) (a3 : Nat) (a4 : Int32) (a5 : Int32) (h : AH) : Option (Int32 × AH) :=
  (g_r h a3 0 0).bind fun x1 => (l_i h x1 a5).bind fun x2 => if x2 = (1 : Int32) then b_X8_mayRace_97 a0 a3 a4 a5 h else b_X8_mayRace_140 h
set_option maxHeartbeats 4000000 in
set_option maxRecDepth 100000 in
theorem q_X8_mayRace_86 {a0 : Nat} {a3 : Nat} {a4 : Int32} {a5 : Int32} {h hE : AH} {v : Int32} (hf : b_X8_mayRace_86 a0 a3 a4 a5 h = some (v, hE)) : JD cX8_mayRace 6 RX8 "mayRace" (some .boolean) (3) 86 [(0, .inr (.inr (a0))), (3, .inr (.inr (a3))), (4, .inl (a4)), (5, .inl (a5))] [] h hE (some (.inl (v))) := by
  unfold b_X8_mayRace_86 at hf
  obtain ⟨x1, e1, hf⟩ := bnd hf
  obtain ⟨x2, e2, hf⟩ := bnd hf
  have mE : hp_n h ≤ hp_n hE ∧ hp_s h ≤ hp_s hE := by
    by_cases hc : x2 = (1 : Int32)
    · rw [if_pos hc] at hf; exact (q_X8_mayRace_97 hf).1
    · rw [if_neg hc] at hf; exact (q_X8_mayRace_140 hf).1
  refine ⟨by omega, fun X g K ok nmx lev hK en => ?_⟩
  refine tj_aload_n ok 1 dX8_mayRace_86 rfl rfl ?_
  refine tj_getR (k := 0) ok fcX0 (by decide) wm_395 rfl (Or.inr ⟨_, rfl⟩) dX8_mayRace_87 e1 ?_
  refine tj_iload ok 3 dX8_mayRace_90 rfl ?_
  refine tj_iaload ok dX8_mayRace_92 e2 ?_
  refine tj_iconst (v := 1) ok dX8_mayRace_93 (by decide) ?_
  refine tj_icmp_ne (tgt := 140) ok dX8_mayRace_94 (by decide) (fun hc => ?_) (fun hc => ?_)
  · rw [if_neg hc] at hf
    refine tj_sub (lv' := []) [] rfl ?_
    exact (q_X8_mayRace_140 hf).2 X g K ok nmx lev hK en
  · rw [if_pos hc] at hf
    exact (q_X8_mayRace_97 hf).2 X g K ok nmx lev hK en
def b_X8_mayRace_75 (a0 : Nat) (a3 : Nat) (a4 : Int32) (a5 : Int32) (h : AH) : Option (Int32 × AH) :=
  (g_r h a3 0 0).bind fun x1 => (l_i h x1 a4).bind fun x2 => if x2 = (1 : Int32) then b_X8_mayRace_97 a0 a3 a4 a5 h else b_X8_mayRace_86 a0 a3 a4 a5 h
set_option maxHeartbeats 4000000 in
set_option maxRecDepth 100000 in
theorem q_X8_mayRace_75 {a0 : Nat} {a3 : Nat} {a4 : Int32} {a5 : Int32} {h hE : AH} {v : Int32} (hf : b_X8_mayRace_75 a0 a3 a4 a5 h = some (v, hE)) : JD cX8_mayRace 6 RX8 "mayRace" (some .boolean) (3) 75 [(0, .inr (.inr (a0))), (3, .inr (.inr (a3))), (4, .inl (a4)), (5, .inl (a5))] [] h hE (some (.inl (v))) := by
  unfold b_X8_mayRace_75 at hf
  obtain ⟨x1, e1, hf⟩ := bnd hf
  obtain ⟨x2, e2, hf⟩ := bnd hf
  have mE : hp_n h ≤ hp_n hE ∧ hp_s h ≤ hp_s hE := by
    by_cases hc : x2 = (1 : Int32)
    · rw [if_pos hc] at hf; exact (q_X8_mayRace_97 hf).1
    · rw [if_neg hc] at hf; exact (q_X8_mayRace_86 hf).1
  refine ⟨by omega, fun X g K ok nmx lev hK en => ?_⟩
  refine tj_aload_n ok 1 dX8_mayRace_75 rfl rfl ?_
  refine tj_getR (k := 0) ok fcX0 (by decide) wm_395 rfl (Or.inr ⟨_, rfl⟩) dX8_mayRace_76 e1 ?_
  refine tj_iload ok 2 dX8_mayRace_79 rfl ?_
  refine tj_iaload ok dX8_mayRace_81 e2 ?_
  refine tj_iconst (v := 1) ok dX8_mayRace_82 (by decide) ?_
  refine tj_icmp_eq (tgt := 97) ok dX8_mayRace_83 (by decide) (fun hc => ?_) (fun hc => ?_)
  · rw [if_pos hc] at hf
    exact (q_X8_mayRace_97 hf).2 X g K ok nmx lev hK en
  · rw [if_neg hc] at hf
    exact (q_X8_mayRace_86 hf).2 X g K ok nmx lev hK en
def b_X8_mayRace_66 (a0 : Nat) (a3 : Nat) (a4 : Int32) (a5 : Int32) (h : AH) : Option (Int32 × AH) :=
  (ok_v h a3 0).bind fun x1 => (f_X0_isCellAction a3 a5 h).bind fun q2 => if q2.1 = 0 then b_X8_mayRace_140 q2.2 else b_X8_mayRace_75 a0 a3 a4 a5 q2.2
set_option maxHeartbeats 4000000 in
set_option maxRecDepth 100000 in
theorem q_X8_mayRace_66 {a0 : Nat} {a3 : Nat} {a4 : Int32} {a5 : Int32} {h hE : AH} {v : Int32} (hf : b_X8_mayRace_66 a0 a3 a4 a5 h = some (v, hE)) : JD cX8_mayRace 6 RX8 "mayRace" (some .boolean) (3) 66 [(0, .inr (.inr (a0))), (3, .inr (.inr (a3))), (4, .inl (a4)), (5, .inl (a5))] [] h hE (some (.inl (v))) := by
  unfold b_X8_mayRace_66 at hf
  obtain ⟨x1, e1, hf⟩ := bnd hf
  obtain ⟨⟨x2, h2⟩, e2, hf⟩ := bnd hf
  try dsimp only at hf
  have k2 := c_X0_isCellAction e2
  have m2 := (k2 default_g).1
  have mE : hp_n h2 ≤ hp_n hE ∧ hp_s h2 ≤ hp_s hE := by
    by_cases hc : x2 = 0
    · rw [if_pos hc] at hf; exact (q_X8_mayRace_140 hf).1
    · rw [if_neg hc] at hf; exact (q_X8_mayRace_75 hf).1
  refine ⟨by omega, fun X g K ok nmx lev hK en => ?_⟩
  refine tj_aload_n ok 1 dX8_mayRace_66 rfl rfl ?_
  refine tj_iload ok 3 dX8_mayRace_67 rfl ?_
  refine tj_callV (rest := ([] : List TV).map (vl g)) (as := [.inl (a5)]) ok lev (by omega) fcX0.1 (by decide) rfl (of_if e1).1 (k2 g) (CaX.of en (by omega)) kn_X0_isCellAction wm_396 wm_87 wm_88 (rs_ok (Nat.le_of_ble_eq_true rfl)) rfl rfl dX8_mayRace_69 ?_
  refine tj_if_eq (tgt := 140) ok dX8_mayRace_72 (by decide) (fun hc => ?_) (fun hc => ?_)
  · rw [if_pos hc] at hf
    refine tj_sub (lv' := []) [] rfl ?_
    exact (q_X8_mayRace_140 hf).2 X g K ok nmx lev hK en
  · rw [if_neg hc] at hf
    exact (q_X8_mayRace_75 hf).2 X g K ok nmx lev hK en
def b_X8_mayRace_57 (a0 : Nat) (a3 : Nat) (a4 : Int32) (a5 : Int32) (h : AH) : Option (Int32 × AH) :=
  (ok_v h a3 0).bind fun x1 => (f_X0_isCellAction a3 a4 h).bind fun q2 => if q2.1 = 0 then b_X8_mayRace_140 q2.2 else b_X8_mayRace_66 a0 a3 a4 a5 q2.2
set_option maxHeartbeats 4000000 in
set_option maxRecDepth 100000 in
theorem q_X8_mayRace_57 {a0 : Nat} {a3 : Nat} {a4 : Int32} {a5 : Int32} {h hE : AH} {v : Int32} (hf : b_X8_mayRace_57 a0 a3 a4 a5 h = some (v, hE)) : JD cX8_mayRace 6 RX8 "mayRace" (some .boolean) (3) 57 [(0, .inr (.inr (a0))), (3, .inr (.inr (a3))), (4, .inl (a4)), (5, .inl (a5))] [] h hE (some (.inl (v))) := by
  unfold b_X8_mayRace_57 at hf
  obtain ⟨x1, e1, hf⟩ := bnd hf
  obtain ⟨⟨x2, h2⟩, e2, hf⟩ := bnd hf
  try dsimp only at hf
  have k2 := c_X0_isCellAction e2
  have m2 := (k2 default_g).1
  have mE : hp_n h2 ≤ hp_n hE ∧ hp_s h2 ≤ hp_s hE := by
    by_cases hc : x2 = 0
    · rw [if_pos hc] at hf; exact (q_X8_mayRace_140 hf).1
    · rw [if_neg hc] at hf; exact (q_X8_mayRace_66 hf).1
  refine ⟨by omega, fun X g K ok nmx lev hK en => ?_⟩
  refine tj_aload_n ok 1 dX8_mayRace_57 rfl rfl ?_
  refine tj_iload ok 2 dX8_mayRace_58 rfl ?_
  refine tj_callV (rest := ([] : List TV).map (vl g)) (as := [.inl (a4)]) ok lev (by omega) fcX0.1 (by decide) rfl (of_if e1).1 (k2 g) (CaX.of en (by omega)) kn_X0_isCellAction wm_396 wm_87 wm_88 (rs_ok (Nat.le_of_ble_eq_true rfl)) rfl rfl dX8_mayRace_60 ?_
  refine tj_if_eq (tgt := 140) ok dX8_mayRace_63 (by decide) (fun hc => ?_) (fun hc => ?_)
  · rw [if_pos hc] at hf
    refine tj_sub (lv' := []) [] rfl ?_
    exact (q_X8_mayRace_140 hf).2 X g K ok nmx lev hK en
  · rw [if_neg hc] at hf
    exact (q_X8_mayRace_66 hf).2 X g K ok nmx lev hK en
def b_X8_mayRace_0 (a0 : Nat) (a1 : Int32) (a2 : Int32) (h : AH) : Option (Int32 × AH) :=
  (g_r h a0 8 7).bind fun x1 => (g_r h x1 5 0).bind fun x2 => (g_r h x2 0 8).bind fun x3 => (l_i h x3 (a1 &&& (7 : Int32))).bind fun x4 => (g_r h x2 0 8).bind fun x5 => (l_i h x5 (a2 &&& (7 : Int32))).bind fun x6 => (g_r h x2 0 9).bind fun x7 => (l_i h x7 (a1 &&& (7 : Int32))).bind fun x8 => (g_r h x2 0 9).bind fun x9 => (l_i h x9 (a2 &&& (7 : Int32))).bind fun x10 => if x8 = x10 then b_X8_mayRace_140 h else b_X8_mayRace_57 a0 x2 (x4 &&& (63 : Int32)) (x6 &&& (63 : Int32)) h
set_option maxHeartbeats 4000000 in
set_option maxRecDepth 100000 in
theorem q_X8_mayRace_0 {a0 : Nat} {a1 : Int32} {a2 : Int32} {h hE : AH} {v : Int32} (hf : b_X8_mayRace_0 a0 a1 a2 h = some (v, hE)) : JD cX8_mayRace 6 RX8 "mayRace" (some .boolean) (3) 0 [(0, .inr (.inr (a0))), (1, .inl (a1)), (2, .inl (a2))] [] h hE (some (.inl (v))) := by
  unfold b_X8_mayRace_0 at hf
  obtain ⟨x1, e1, hf⟩ := bnd hf
  obtain ⟨x2, e2, hf⟩ := bnd hf
  obtain ⟨x3, e3, hf⟩ := bnd hf
  obtain ⟨x4, e4, hf⟩ := bnd hf
  obtain ⟨x5, e5, hf⟩ := bnd hf
  obtain ⟨x6, e6, hf⟩ := bnd hf
  obtain ⟨x7, e7, hf⟩ := bnd hf
  obtain ⟨x8, e8, hf⟩ := bnd hf
  obtain ⟨x9, e9, hf⟩ := bnd hf
  obtain ⟨x10, e10, hf⟩ := bnd hf
  have mE : hp_n h ≤ hp_n hE ∧ hp_s h ≤ hp_s hE := by
    by_cases hc : x8 = x10
    · rw [if_pos hc] at hf; exact (q_X8_mayRace_140 hf).1
    · rw [if_neg hc] at hf; exact (q_X8_mayRace_57 hf).1
  refine ⟨by omega, fun X g K ok nmx lev hK en => ?_⟩
  refine tj_aload_n ok 0 dX8_mayRace_0 rfl rfl ?_
  refine tj_getR (k := 7) ok fcX8 (by decide) wm_190 rfl (Or.inl ⟨_, rfl⟩) dX8_mayRace_1 e1 ?_
  refine tj_getR (k := 0) ok fcX5 (by decide) wm_279 rfl (Or.inl ⟨_, rfl⟩) dX8_mayRace_4 e2 ?_
  refine tj_astore_n (lv' := [(0, .inr (.inr (a0))), (1, .inl (a1)), (2, .inl (a2)), (3, .inr (.inr (x2)))]) ok dX8_mayRace_7 rfl (by decide) rfl ?_
  refine tj_aload_n ok 3 dX8_mayRace_8 rfl rfl ?_
  refine tj_getR (k := 8) ok fcX0 (by decide) wm_397 rfl (Or.inr ⟨_, rfl⟩) dX8_mayRace_9 e3 ?_
  refine tj_iload_n ok 1 dX8_mayRace_12 rfl rfl ?_
  refine tj_bipush (v := 7) ok dX8_mayRace_13 (by decide) ?_
  refine tj_iand ok dX8_mayRace_15 ?_
  refine tj_iaload ok dX8_mayRace_16 e4 ?_
  refine tj_bipush (v := 63) ok dX8_mayRace_17 (by decide) ?_
  refine tj_iand ok dX8_mayRace_19 ?_
  refine tj_istore (lv' := [(0, .inr (.inr (a0))), (1, .inl (a1)), (2, .inl (a2)), (3, .inr (.inr (x2))), (4, .inl (x4 &&& (63 : Int32)))]) ok dX8_mayRace_20 (by decide) rfl ?_
  refine tj_aload_n ok 3 dX8_mayRace_22 rfl rfl ?_
  refine tj_getR (k := 8) ok fcX0 (by decide) wm_397 rfl (Or.inr ⟨_, rfl⟩) dX8_mayRace_23 e5 ?_
  refine tj_iload_n ok 2 dX8_mayRace_26 rfl rfl ?_
  refine tj_bipush (v := 7) ok dX8_mayRace_27 (by decide) ?_
  refine tj_iand ok dX8_mayRace_29 ?_
  refine tj_iaload ok dX8_mayRace_30 e6 ?_
  refine tj_bipush (v := 63) ok dX8_mayRace_31 (by decide) ?_
  refine tj_iand ok dX8_mayRace_33 ?_
  refine tj_istore (lv' := [(0, .inr (.inr (a0))), (1, .inl (a1)), (2, .inl (a2)), (3, .inr (.inr (x2))), (4, .inl (x4 &&& (63 : Int32))), (5, .inl (x6 &&& (63 : Int32)))]) ok dX8_mayRace_34 (by decide) rfl ?_
  refine tj_aload_n ok 3 dX8_mayRace_36 rfl rfl ?_
  refine tj_getR (k := 9) ok fcX0 (by decide) wm_398 rfl (Or.inr ⟨_, rfl⟩) dX8_mayRace_37 e7 ?_
  refine tj_iload_n ok 1 dX8_mayRace_40 rfl rfl ?_
  refine tj_bipush (v := 7) ok dX8_mayRace_41 (by decide) ?_
  refine tj_iand ok dX8_mayRace_43 ?_
  refine tj_iaload ok dX8_mayRace_44 e8 ?_
  refine tj_aload_n ok 3 dX8_mayRace_45 rfl rfl ?_
  refine tj_getR (k := 9) ok fcX0 (by decide) wm_398 rfl (Or.inr ⟨_, rfl⟩) dX8_mayRace_46 e9 ?_
  refine tj_iload_n ok 2 dX8_mayRace_49 rfl rfl ?_
  refine tj_bipush (v := 7) ok dX8_mayRace_50 (by decide) ?_
  refine tj_iand ok dX8_mayRace_52 ?_
  refine tj_iaload ok dX8_mayRace_53 e10 ?_
  refine tj_icmp_eq (tgt := 140) ok dX8_mayRace_54 (by decide) (fun hc => ?_) (fun hc => ?_)
  · rw [if_pos hc] at hf
    refine tj_sub (lv' := []) [] rfl ?_
    exact (q_X8_mayRace_140 hf).2 X g K ok nmx lev hK en
  · rw [if_neg hc] at hf
    refine tj_sub (lv' := [(0, .inr (.inr (a0))), (3, .inr (.inr (x2))), (4, .inl (x4 &&& (63 : Int32))), (5, .inl (x6 &&& (63 : Int32)))]) [0, 3, 4, 5] rfl ?_
    exact (q_X8_mayRace_57 hf).2 X g K ok nmx lev hK en
def f_X8_mayRace (a0 : Nat) (a1 : Int32) (a2 : Int32) (h : AH) : Option (Int32 × AH) := b_X8_mayRace_0  a0 a1 a2 h
theorem c_X8_mayRace {a0 : Nat} {a1 : Int32} {a2 : Int32} {h hE : AH} {v : Int32} (hf : f_X8_mayRace a0 a1 a2 h = some (v, hE)) : ∀ g : GT, CM g (3) yX8_mayRace cX8_mayRace 6 (some .boolean) h [.inr (.inr (a0)), .inl (a1), .inl (a2)] hE (some (.inl (v))) :=
  CM.ofJ (by decide) (by show _ ≤ 6; exact Nat.le_of_ble_eq_true rfl) (q_X8_mayRace_0 hf)
/-! ===== LitmusHouse$Search.noteRaces()V ===== -/
def b_X8_noteRaces_115  (h : AH) : Option (AH) :=
  some h
set_option maxHeartbeats 4000000 in
set_option maxRecDepth 100000 in
theorem q_X8_noteRaces_115 {h hE : AH} (hf : b_X8_noteRaces_115  h = some hE) : JD cX8_noteRaces 4 RX8 "noteRaces" none (4) 115 [] [] h hE none := by
  unfold b_X8_noteRaces_115 at hf
  have hh := Option.some.inj hf
  subst hh
  have mE : hp_n h ≤ hp_n h ∧ hp_s h ≤ hp_s h := ⟨Nat.le_refl _, Nat.le_refl _⟩
  refine ⟨by omega, fun X g K ok nmx lev hK en => ?_⟩
  exact tj_return ok en dX8_noteRaces_115
def b_X8_noteRaces_109 (r10 : Nat → Int32 → Int32 → AH → Option (AH)) (a0 : Nat) (a1 : Int32) (a2 : Int32) (h : AH) : Option (AH) :=
  r10 a0 a1 (a2 + (1 : Int32)) h
set_option maxHeartbeats 4000000 in
set_option maxRecDepth 100000 in
theorem q_X8_noteRaces_109 {hE : AH} {r10 : Nat → Int32 → Int32 → AH → Option (AH)} (hr10 : ∀ (b0 : Nat) (b1 : Int32) (b2 : Int32) (h : AH), r10 b0 b1 b2 h = some hE → JD cX8_noteRaces 4 RX8 "noteRaces" none (4) 10 [(0, .inr (.inr (b0))), (1, .inl (b1)), (2, .inl (b2))] [] h hE none) {a0 : Nat} {a1 : Int32} {a2 : Int32} {h : AH} (hf : b_X8_noteRaces_109 r10 a0 a1 a2 h = some hE) : JD cX8_noteRaces 4 RX8 "noteRaces" none (4) 109 [(0, .inr (.inr (a0))), (1, .inl (a1)), (2, .inl (a2))] [] h hE none := by
  unfold b_X8_noteRaces_109 at hf
  have J := hr10 _ _ _ _ hf
  have mE := J.1
  refine ⟨by omega, fun X g K ok nmx lev hK en => ?_⟩
  refine tj_iinc (lv' := [(0, .inr (.inr (a0))), (1, .inl (a1)), (2, .inl (a2 + (1 : Int32)))]) ok 2 dX8_noteRaces_109 rfl (rfl) (by decide) rfl ?_
  refine tj_goto (tgt := 10) ok dX8_noteRaces_112 (by decide) ?_
  exact J.2 X g K ok nmx lev hK en
def b_X8_noteRaces_103 (r10 : Nat → Int32 → Int32 → AH → Option (AH)) (r18 : Nat → Int32 → Int32 → Int32 → AH → Option (AH)) (a0 : Nat) (a1 : Int32) (a2 : Int32) (a3 : Int32) (h : AH) : Option (AH) :=
  r18 a0 a1 a2 (a3 + (1 : Int32)) h
set_option maxHeartbeats 4000000 in
set_option maxRecDepth 100000 in
theorem q_X8_noteRaces_103 {hE : AH} {r10 : Nat → Int32 → Int32 → AH → Option (AH)} (hr10 : ∀ (b0 : Nat) (b1 : Int32) (b2 : Int32) (h : AH), r10 b0 b1 b2 h = some hE → JD cX8_noteRaces 4 RX8 "noteRaces" none (4) 10 [(0, .inr (.inr (b0))), (1, .inl (b1)), (2, .inl (b2))] [] h hE none) {r18 : Nat → Int32 → Int32 → Int32 → AH → Option (AH)} (hr18 : ∀ (b0 : Nat) (b1 : Int32) (b2 : Int32) (b3 : Int32) (h : AH), r18 b0 b1 b2 b3 h = some hE → JD cX8_noteRaces 4 RX8 "noteRaces" none (4) 18 [(0, .inr (.inr (b0))), (1, .inl (b1)), (2, .inl (b2)), (3, .inl (b3))] [] h hE none) {a0 : Nat} {a1 : Int32} {a2 : Int32} {a3 : Int32} {h : AH} (hf : b_X8_noteRaces_103 r10 r18 a0 a1 a2 a3 h = some hE) : JD cX8_noteRaces 4 RX8 "noteRaces" none (4) 103 [(0, .inr (.inr (a0))), (1, .inl (a1)), (2, .inl (a2)), (3, .inl (a3))] [] h hE none := by
  unfold b_X8_noteRaces_103 at hf
  have J := hr18 _ _ _ _ _ hf
  have mE := J.1
  refine ⟨by omega, fun X g K ok nmx lev hK en => ?_⟩
  refine tj_iinc (lv' := [(0, .inr (.inr (a0))), (1, .inl (a1)), (2, .inl (a2)), (3, .inl (a3 + (1 : Int32)))]) ok 3 dX8_noteRaces_103 rfl (rfl) (by decide) rfl ?_
  refine tj_goto (tgt := 18) ok dX8_noteRaces_106 (by decide) ?_
  exact J.2 X g K ok nmx lev hK en
def b_X8_noteRaces_86 (r10 : Nat → Int32 → Int32 → AH → Option (AH)) (r18 : Nat → Int32 → Int32 → Int32 → AH → Option (AH)) (a0 : Nat) (a1 : Int32) (a2 : Int32) (a3 : Int32) (h : AH) : Option (AH) :=
  (g_j h a0 8 12).bind fun x1 => (p_j h a0 8 12 (x1 ||| ((1 : Int64) <<< ((((8 : Int32) * a3) + a2).toInt64 &&& 63)))).bind fun h2 => b_X8_noteRaces_103 r10 r18 a0 a1 a2 a3 h2
set_option maxHeartbeats 4000000 in
set_option maxRecDepth 100000 in
theorem q_X8_noteRaces_86 {hE : AH} {r10 : Nat → Int32 → Int32 → AH → Option (AH)} (hr10 : ∀ (b0 : Nat) (b1 : Int32) (b2 : Int32) (h : AH), r10 b0 b1 b2 h = some hE → JD cX8_noteRaces 4 RX8 "noteRaces" none (4) 10 [(0, .inr (.inr (b0))), (1, .inl (b1)), (2, .inl (b2))] [] h hE none) {r18 : Nat → Int32 → Int32 → Int32 → AH → Option (AH)} (hr18 : ∀ (b0 : Nat) (b1 : Int32) (b2 : Int32) (b3 : Int32) (h : AH), r18 b0 b1 b2 b3 h = some hE → JD cX8_noteRaces 4 RX8 "noteRaces" none (4) 18 [(0, .inr (.inr (b0))), (1, .inl (b1)), (2, .inl (b2)), (3, .inl (b3))] [] h hE none) {a0 : Nat} {a1 : Int32} {a2 : Int32} {a3 : Int32} {h : AH} (hf : b_X8_noteRaces_86 r10 r18 a0 a1 a2 a3 h = some hE) : JD cX8_noteRaces 4 RX8 "noteRaces" none (4) 86 [(0, .inr (.inr (a0))), (1, .inl (a1)), (2, .inl (a2)), (3, .inl (a3))] [] h hE none := by
  unfold b_X8_noteRaces_86 at hf
  obtain ⟨x1, e1, hf⟩ := bnd hf
  obtain ⟨h2, e2, hf⟩ := bnd hf
  have m2 := nn_pj e2
  have J := q_X8_noteRaces_103 hr10 hr18 hf
  have mE := J.1
  refine ⟨by omega, fun X g K ok nmx lev hK en => ?_⟩
  refine tj_aload_n ok 0 dX8_noteRaces_86 rfl rfl ?_
  refine tj_dupa ok dX8_noteRaces_87 ?_
  refine tj_getJ (k := 12) ok fcX8 (by decide) wm_195 rfl rfl dX8_noteRaces_88 e1 ?_
  refine tj_lconst (v := 1) ok dX8_noteRaces_91 (by decide) ?_
  refine tj_bipush (v := 8) ok dX8_noteRaces_92 (by decide) ?_
  refine tj_iload_n ok 3 dX8_noteRaces_94 rfl rfl ?_
  refine tj_imul ok dX8_noteRaces_95 ?_
  refine tj_iload_n ok 2 dX8_noteRaces_96 rfl rfl ?_
  refine tj_iadd ok dX8_noteRaces_97 ?_
  refine tj_lshl ok dX8_noteRaces_98 ?_
  refine tj_lor ok dX8_noteRaces_99 ?_
  refine tj_putJ (k := 12) ok fcX8 (by decide) wm_195 rfl (Or.inl rfl) rfl dX8_noteRaces_100 e2 ?_
  exact J.2 X g K ok nmx lev hK en
def b_X8_noteRaces_65 (r10 : Nat → Int32 → Int32 → AH → Option (AH)) (r18 : Nat → Int32 → Int32 → Int32 → AH → Option (AH)) (a0 : Nat) (a1 : Int32) (a2 : Int32) (a3 : Int32) (h : AH) : Option (AH) :=
  (g_r h a0 8 0).bind fun x1 => (g_j h x1 2 2).bind fun x2 => if (lg_cmp ((us_j x2 (((8 : Int32) * a3) + a2)) &&& (1 : Int64)) (0 : Int64)) = 0 then b_X8_noteRaces_86 r10 r18 a0 a1 a2 a3 h else b_X8_noteRaces_103 r10 r18 a0 a1 a2 a3 h
set_option maxHeartbeats 4000000 in
set_option maxRecDepth 100000 in
theorem q_X8_noteRaces_65 {hE : AH} {r10 : Nat → Int32 → Int32 → AH → Option (AH)} (hr10 : ∀ (b0 : Nat) (b1 : Int32) (b2 : Int32) (h : AH), r10 b0 b1 b2 h = some hE → JD cX8_noteRaces 4 RX8 "noteRaces" none (4) 10 [(0, .inr (.inr (b0))), (1, .inl (b1)), (2, .inl (b2))] [] h hE none) {r18 : Nat → Int32 → Int32 → Int32 → AH → Option (AH)} (hr18 : ∀ (b0 : Nat) (b1 : Int32) (b2 : Int32) (b3 : Int32) (h : AH), r18 b0 b1 b2 b3 h = some hE → JD cX8_noteRaces 4 RX8 "noteRaces" none (4) 18 [(0, .inr (.inr (b0))), (1, .inl (b1)), (2, .inl (b2)), (3, .inl (b3))] [] h hE none) {a0 : Nat} {a1 : Int32} {a2 : Int32} {a3 : Int32} {h : AH} (hf : b_X8_noteRaces_65 r10 r18 a0 a1 a2 a3 h = some hE) : JD cX8_noteRaces 4 RX8 "noteRaces" none (4) 65 [(0, .inr (.inr (a0))), (1, .inl (a1)), (2, .inl (a2)), (3, .inl (a3))] [] h hE none := by
  unfold b_X8_noteRaces_65 at hf
  obtain ⟨x1, e1, hf⟩ := bnd hf
  obtain ⟨x2, e2, hf⟩ := bnd hf
  have mE : hp_n h ≤ hp_n hE ∧ hp_s h ≤ hp_s hE := by
    by_cases hc : (lg_cmp ((us_j x2 (((8 : Int32) * a3) + a2)) &&& (1 : Int64)) (0 : Int64)) = 0
    · rw [if_pos hc] at hf; exact (q_X8_noteRaces_86 hr10 hr18 hf).1
    · rw [if_neg hc] at hf; exact (q_X8_noteRaces_103 hr10 hr18 hf).1
  refine ⟨by omega, fun X g K ok nmx lev hK en => ?_⟩
  refine tj_aload_n ok 0 dX8_noteRaces_65 rfl rfl ?_
  refine tj_getR (k := 0) ok fcX8 (by decide) wm_177 rfl (Or.inl ⟨_, rfl⟩) dX8_noteRaces_66 e1 ?_
  refine tj_getJ (k := 2) ok fcX2 (by decide) wm_354 rfl rfl dX8_noteRaces_69 e2 ?_
  refine tj_bipush (v := 8) ok dX8_noteRaces_72 (by decide) ?_
  refine tj_iload_n ok 3 dX8_noteRaces_74 rfl rfl ?_
  refine tj_imul ok dX8_noteRaces_75 ?_
  refine tj_iload_n ok 2 dX8_noteRaces_76 rfl rfl ?_
  refine tj_iadd ok dX8_noteRaces_77 ?_
  refine tj_lushr ok dX8_noteRaces_78 ?_
  refine tj_lconst (v := 1) ok dX8_noteRaces_79 (by decide) ?_
  refine tj_land ok dX8_noteRaces_80 ?_
  refine tj_lconst (v := 0) ok dX8_noteRaces_81 (by decide) ?_
  refine tj_lcmp ok dX8_noteRaces_82 ?_
  refine tj_if_ne (tgt := 103) ok dX8_noteRaces_83 (by decide) (fun hc => ?_) (fun hc => ?_)
  · rw [if_neg hc] at hf
    exact (q_X8_noteRaces_103 hr10 hr18 hf).2 X g K ok nmx lev hK en
  · rw [if_pos hc] at hf
    exact (q_X8_noteRaces_86 hr10 hr18 hf).2 X g K ok nmx lev hK en
def b_X8_noteRaces_44 (r10 : Nat → Int32 → Int32 → AH → Option (AH)) (r18 : Nat → Int32 → Int32 → Int32 → AH → Option (AH)) (a0 : Nat) (a1 : Int32) (a2 : Int32) (a3 : Int32) (h : AH) : Option (AH) :=
  (g_r h a0 8 0).bind fun x1 => (g_j h x1 2 2).bind fun x2 => if (lg_cmp ((us_j x2 (((8 : Int32) * a2) + a3)) &&& (1 : Int64)) (0 : Int64)) = 0 then b_X8_noteRaces_65 r10 r18 a0 a1 a2 a3 h else b_X8_noteRaces_103 r10 r18 a0 a1 a2 a3 h
set_option maxHeartbeats 4000000 in
set_option maxRecDepth 100000 in
theorem q_X8_noteRaces_44 {hE : AH} {r10 : Nat → Int32 → Int32 → AH → Option (AH)} (hr10 : ∀ (b0 : Nat) (b1 : Int32) (b2 : Int32) (h : AH), r10 b0 b1 b2 h = some hE → JD cX8_noteRaces 4 RX8 "noteRaces" none (4) 10 [(0, .inr (.inr (b0))), (1, .inl (b1)), (2, .inl (b2))] [] h hE none) {r18 : Nat → Int32 → Int32 → Int32 → AH → Option (AH)} (hr18 : ∀ (b0 : Nat) (b1 : Int32) (b2 : Int32) (b3 : Int32) (h : AH), r18 b0 b1 b2 b3 h = some hE → JD cX8_noteRaces 4 RX8 "noteRaces" none (4) 18 [(0, .inr (.inr (b0))), (1, .inl (b1)), (2, .inl (b2)), (3, .inl (b3))] [] h hE none) {a0 : Nat} {a1 : Int32} {a2 : Int32} {a3 : Int32} {h : AH} (hf : b_X8_noteRaces_44 r10 r18 a0 a1 a2 a3 h = some hE) : JD cX8_noteRaces 4 RX8 "noteRaces" none (4) 44 [(0, .inr (.inr (a0))), (1, .inl (a1)), (2, .inl (a2)), (3, .inl (a3))] [] h hE none := by
  unfold b_X8_noteRaces_44 at hf
  obtain ⟨x1, e1, hf⟩ := bnd hf
  obtain ⟨x2, e2, hf⟩ := bnd hf
  have mE : hp_n h ≤ hp_n hE ∧ hp_s h ≤ hp_s hE := by
    by_cases hc : (lg_cmp ((us_j x2 (((8 : Int32) * a2) + a3)) &&& (1 : Int64)) (0 : Int64)) = 0
    · rw [if_pos hc] at hf; exact (q_X8_noteRaces_65 hr10 hr18 hf).1
    · rw [if_neg hc] at hf; exact (q_X8_noteRaces_103 hr10 hr18 hf).1
  refine ⟨by omega, fun X g K ok nmx lev hK en => ?_⟩
  refine tj_aload_n ok 0 dX8_noteRaces_44 rfl rfl ?_
  refine tj_getR (k := 0) ok fcX8 (by decide) wm_177 rfl (Or.inl ⟨_, rfl⟩) dX8_noteRaces_45 e1 ?_
  refine tj_getJ (k := 2) ok fcX2 (by decide) wm_354 rfl rfl dX8_noteRaces_48 e2 ?_
  refine tj_bipush (v := 8) ok dX8_noteRaces_51 (by decide) ?_
  refine tj_iload_n ok 2 dX8_noteRaces_53 rfl rfl ?_
  refine tj_imul ok dX8_noteRaces_54 ?_
  refine tj_iload_n ok 3 dX8_noteRaces_55 rfl rfl ?_
  refine tj_iadd ok dX8_noteRaces_56 ?_
  refine tj_lushr ok dX8_noteRaces_57 ?_
  refine tj_lconst (v := 1) ok dX8_noteRaces_58 (by decide) ?_
  refine tj_land ok dX8_noteRaces_59 ?_
  refine tj_lconst (v := 0) ok dX8_noteRaces_60 (by decide) ?_
  refine tj_lcmp ok dX8_noteRaces_61 ?_
  refine tj_if_ne (tgt := 103) ok dX8_noteRaces_62 (by decide) (fun hc => ?_) (fun hc => ?_)
  · rw [if_neg hc] at hf
    exact (q_X8_noteRaces_103 hr10 hr18 hf).2 X g K ok nmx lev hK en
  · rw [if_pos hc] at hf
    exact (q_X8_noteRaces_65 hr10 hr18 hf).2 X g K ok nmx lev hK en
def b_X8_noteRaces_35 (r10 : Nat → Int32 → Int32 → AH → Option (AH)) (r18 : Nat → Int32 → Int32 → Int32 → AH → Option (AH)) (a0 : Nat) (a1 : Int32) (a2 : Int32) (a3 : Int32) (h : AH) : Option (AH) :=
  (ok_v h a0 8).bind fun x1 => (f_X8_mayRace a0 a3 a2 h).bind fun q2 => if q2.1 = 0 then b_X8_noteRaces_103 r10 r18 a0 a1 a2 a3 q2.2 else b_X8_noteRaces_44 r10 r18 a0 a1 a2 a3 q2.2
set_option maxHeartbeats 4000000 in
set_option maxRecDepth 100000 in
theorem q_X8_noteRaces_35 {hE : AH} {r10 : Nat → Int32 → Int32 → AH → Option (AH)} (hr10 : ∀ (b0 : Nat) (b1 : Int32) (b2 : Int32) (h : AH), r10 b0 b1 b2 h = some hE → JD cX8_noteRaces 4 RX8 "noteRaces" none (4) 10 [(0, .inr (.inr (b0))), (1, .inl (b1)), (2, .inl (b2))] [] h hE none) {r18 : Nat → Int32 → Int32 → Int32 → AH → Option (AH)} (hr18 : ∀ (b0 : Nat) (b1 : Int32) (b2 : Int32) (b3 : Int32) (h : AH), r18 b0 b1 b2 b3 h = some hE → JD cX8_noteRaces 4 RX8 "noteRaces" none (4) 18 [(0, .inr (.inr (b0))), (1, .inl (b1)), (2, .inl (b2)), (3, .inl (b3))] [] h hE none) {a0 : Nat} {a1 : Int32} {a2 : Int32} {a3 : Int32} {h : AH} (hf : b_X8_noteRaces_35 r10 r18 a0 a1 a2 a3 h = some hE) : JD cX8_noteRaces 4 RX8 "noteRaces" none (4) 35 [(0, .inr (.inr (a0))), (1, .inl (a1)), (2, .inl (a2)), (3, .inl (a3))] [] h hE none := by
  unfold b_X8_noteRaces_35 at hf
  obtain ⟨x1, e1, hf⟩ := bnd hf
  obtain ⟨⟨x2, h2⟩, e2, hf⟩ := bnd hf
  try dsimp only at hf
  have k2 := c_X8_mayRace e2
  have m2 := (k2 default_g).1
  have mE : hp_n h2 ≤ hp_n hE ∧ hp_s h2 ≤ hp_s hE := by
    by_cases hc : x2 = 0
    · rw [if_pos hc] at hf; exact (q_X8_noteRaces_103 hr10 hr18 hf).1
    · rw [if_neg hc] at hf; exact (q_X8_noteRaces_44 hr10 hr18 hf).1
  refine ⟨by omega, fun X g K ok nmx lev hK en => ?_⟩
  refine tj_aload_n ok 0 dX8_noteRaces_35 rfl rfl ?_
  refine tj_iload_n ok 3 dX8_noteRaces_36 rfl rfl ?_
  refine tj_iload_n ok 2 dX8_noteRaces_37 rfl rfl ?_
  refine tj_callV (rest := ([] : List TV).map (vl g)) (as := [.inl (a3), .inl (a2)]) ok lev (by omega) fcX8.1 (by decide) rfl (of_if e1).1 (k2 g) (CaX.of en (by omega)) kn_X8_mayRace wm_400 wm_401 wm_402 (rs_ok (Nat.le_of_ble_eq_true rfl)) rfl rfl dX8_noteRaces_38 ?_
  refine tj_if_eq (tgt := 103) ok dX8_noteRaces_41 (by decide) (fun hc => ?_) (fun hc => ?_)
  · rw [if_pos hc] at hf
    exact (q_X8_noteRaces_103 hr10 hr18 hf).2 X g K ok nmx lev hK en
  · rw [if_neg hc] at hf
    exact (q_X8_noteRaces_44 hr10 hr18 hf).2 X g K ok nmx lev hK en
def b_X8_noteRaces_23 (r10 : Nat → Int32 → Int32 → AH → Option (AH)) (r18 : Nat → Int32 → Int32 → Int32 → AH → Option (AH)) (a0 : Nat) (a1 : Int32) (a2 : Int32) (a3 : Int32) (h : AH) : Option (AH) :=
  if (((a1 >>> (a3 &&& 31)) &&& (a1 >>> (a2 &&& 31))) &&& (1 : Int32)) = 0 then b_X8_noteRaces_103 r10 r18 a0 a1 a2 a3 h else b_X8_noteRaces_35 r10 r18 a0 a1 a2 a3 h
set_option maxHeartbeats 4000000 in
set_option maxRecDepth 100000 in
theorem q_X8_noteRaces_23 {hE : AH} {r10 : Nat → Int32 → Int32 → AH → Option (AH)} (hr10 : ∀ (b0 : Nat) (b1 : Int32) (b2 : Int32) (h : AH), r10 b0 b1 b2 h = some hE → JD cX8_noteRaces 4 RX8 "noteRaces" none (4) 10 [(0, .inr (.inr (b0))), (1, .inl (b1)), (2, .inl (b2))] [] h hE none) {r18 : Nat → Int32 → Int32 → Int32 → AH → Option (AH)} (hr18 : ∀ (b0 : Nat) (b1 : Int32) (b2 : Int32) (b3 : Int32) (h : AH), r18 b0 b1 b2 b3 h = some hE → JD cX8_noteRaces 4 RX8 "noteRaces" none (4) 18 [(0, .inr (.inr (b0))), (1, .inl (b1)), (2, .inl (b2)), (3, .inl (b3))] [] h hE none) {a0 : Nat} {a1 : Int32} {a2 : Int32} {a3 : Int32} {h : AH} (hf : b_X8_noteRaces_23 r10 r18 a0 a1 a2 a3 h = some hE) : JD cX8_noteRaces 4 RX8 "noteRaces" none (4) 23 [(0, .inr (.inr (a0))), (1, .inl (a1)), (2, .inl (a2)), (3, .inl (a3))] [] h hE none := by
  unfold b_X8_noteRaces_23 at hf
  have mE : hp_n h ≤ hp_n hE ∧ hp_s h ≤ hp_s hE := by
    by_cases hc : (((a1 >>> (a3 &&& 31)) &&& (a1 >>> (a2 &&& 31))) &&& (1 : Int32)) = 0
    · rw [if_pos hc] at hf; exact (q_X8_noteRaces_103 hr10 hr18 hf).1
    · rw [if_neg hc] at hf; exact (q_X8_noteRaces_35 hr10 hr18 hf).1
  refine ⟨by omega, fun X g K ok nmx lev hK en => ?_⟩
  refine tj_iload_n ok 1 dX8_noteRaces_23 rfl rfl ?_
  refine tj_iload_n ok 3 dX8_noteRaces_24 rfl rfl ?_
  refine tj_ishr ok dX8_noteRaces_25 ?_
  refine tj_iload_n ok 1 dX8_noteRaces_26 rfl rfl ?_
  refine tj_iload_n ok 2 dX8_noteRaces_27 rfl rfl ?_
  refine tj_ishr ok dX8_noteRaces_28 ?_
  refine tj_iand ok dX8_noteRaces_29 ?_
  refine tj_iconst (v := 1) ok dX8_noteRaces_30 (by decide) ?_
  refine tj_iand ok dX8_noteRaces_31 ?_
  refine tj_if_eq (tgt := 103) ok dX8_noteRaces_32 (by decide) (fun hc => ?_) (fun hc => ?_)
  · rw [if_pos hc] at hf
    exact (q_X8_noteRaces_103 hr10 hr18 hf).2 X g K ok nmx lev hK en
  · rw [if_neg hc] at hf
    exact (q_X8_noteRaces_35 hr10 hr18 hf).2 X g K ok nmx lev hK en
def b_X8_noteRaces_18 (r10 : Nat → Int32 → Int32 → AH → Option (AH)) (r18 : Nat → Int32 → Int32 → Int32 → AH → Option (AH)) (a0 : Nat) (a1 : Int32) (a2 : Int32) (a3 : Int32) (h : AH) : Option (AH) :=
  if a2 ≤ a3 then b_X8_noteRaces_109 r10 a0 a1 a2 h else b_X8_noteRaces_23 r10 r18 a0 a1 a2 a3 h
set_option maxHeartbeats 4000000 in
set_option maxRecDepth 100000 in
theorem q_X8_noteRaces_18 {hE : AH} {r10 : Nat → Int32 → Int32 → AH → Option (AH)} (hr10 : ∀ (b0 : Nat) (b1 : Int32) (b2 : Int32) (h : AH), r10 b0 b1 b2 h = some hE → JD cX8_noteRaces 4 RX8 "noteRaces" none (4) 10 [(0, .inr (.inr (b0))), (1, .inl (b1)), (2, .inl (b2))] [] h hE none) {r18 : Nat → Int32 → Int32 → Int32 → AH → Option (AH)} (hr18 : ∀ (b0 : Nat) (b1 : Int32) (b2 : Int32) (b3 : Int32) (h : AH), r18 b0 b1 b2 b3 h = some hE → JD cX8_noteRaces 4 RX8 "noteRaces" none (4) 18 [(0, .inr (.inr (b0))), (1, .inl (b1)), (2, .inl (b2)), (3, .inl (b3))] [] h hE none) {a0 : Nat} {a1 : Int32} {a2 : Int32} {a3 : Int32} {h : AH} (hf : b_X8_noteRaces_18 r10 r18 a0 a1 a2 a3 h = some hE) : JD cX8_noteRaces 4 RX8 "noteRaces" none (4) 18 [(0, .inr (.inr (a0))), (1, .inl (a1)), (2, .inl (a2)), (3, .inl (a3))] [] h hE none := by
  unfold b_X8_noteRaces_18 at hf
  have mE : hp_n h ≤ hp_n hE ∧ hp_s h ≤ hp_s hE := by
    by_cases hc : a2 ≤ a3
    · rw [if_pos hc] at hf; exact (q_X8_noteRaces_109 hr10 hf).1
    · rw [if_neg hc] at hf; exact (q_X8_noteRaces_23 hr10 hr18 hf).1
  refine ⟨by omega, fun X g K ok nmx lev hK en => ?_⟩
  refine tj_iload_n ok 3 dX8_noteRaces_18 rfl rfl ?_
  refine tj_iload_n ok 2 dX8_noteRaces_19 rfl rfl ?_
  refine tj_icmp_ge (tgt := 109) ok dX8_noteRaces_20 (by decide) (fun hc => ?_) (fun hc => ?_)
  · rw [if_pos hc] at hf
    refine tj_sub (lv' := [(0, .inr (.inr (a0))), (1, .inl (a1)), (2, .inl (a2))]) [0, 1, 2] rfl ?_
    exact (q_X8_noteRaces_109 hr10 hf).2 X g K ok nmx lev hK en
  · rw [if_neg hc] at hf
    exact (q_X8_noteRaces_23 hr10 hr18 hf).2 X g K ok nmx lev hK en
def l_X8_noteRaces_18 (r10 : Nat → Int32 → Int32 → AH → Option (AH)) : Nat → Nat → Int32 → Int32 → Int32 → AH → Option (AH)
  | 0 => fun _ _ _ _ _ => none
  | n + 1 => fun a0 a1 a2 a3 h => b_X8_noteRaces_18 r10 (l_X8_noteRaces_18 r10 n) a0 a1 a2 a3 h
theorem ql_X8_noteRaces_18 {hE : AH} {r10 : Nat → Int32 → Int32 → AH → Option (AH)} (hr10 : ∀ (b0 : Nat) (b1 : Int32) (b2 : Int32) (h : AH), r10 b0 b1 b2 h = some hE → JD cX8_noteRaces 4 RX8 "noteRaces" none (4) 10 [(0, .inr (.inr (b0))), (1, .inl (b1)), (2, .inl (b2))] [] h hE none) {n : Nat} {a0 : Nat} {a1 : Int32} {a2 : Int32} {a3 : Int32} {h : AH} (hf : l_X8_noteRaces_18 r10 n a0 a1 a2 a3 h = some hE) : JD cX8_noteRaces 4 RX8 "noteRaces" none (4) 18 [(0, .inr (.inr (a0))), (1, .inl (a1)), (2, .inl (a2)), (3, .inl (a3))] [] h hE none := by
  induction n generalizing a0 a1 a2 a3 h with
  | zero => cases hf
  | succ n ih => exact q_X8_noteRaces_18 hr10 (fun _ _ _ _ _ hf => ih hf) hf
def b_X8_noteRaces_16 (r10 : Nat → Int32 → Int32 → AH → Option (AH)) (a0 : Nat) (a1 : Int32) (a2 : Int32) (h : AH) : Option (AH) :=
  l_X8_noteRaces_18 r10 fu_ a0 a1 a2 (0 : Int32) h
set_option maxHeartbeats 4000000 in
set_option maxRecDepth 100000 in
theorem q_X8_noteRaces_16 {hE : AH} {r10 : Nat → Int32 → Int32 → AH → Option (AH)} (hr10 : ∀ (b0 : Nat) (b1 : Int32) (b2 : Int32) (h : AH), r10 b0 b1 b2 h = some hE → JD cX8_noteRaces 4 RX8 "noteRaces" none (4) 10 [(0, .inr (.inr (b0))), (1, .inl (b1)), (2, .inl (b2))] [] h hE none) {a0 : Nat} {a1 : Int32} {a2 : Int32} {h : AH} (hf : b_X8_noteRaces_16 r10 a0 a1 a2 h = some hE) : JD cX8_noteRaces 4 RX8 "noteRaces" none (4) 16 [(0, .inr (.inr (a0))), (1, .inl (a1)), (2, .inl (a2))] [] h hE none := by
  unfold b_X8_noteRaces_16 at hf
  have J := ql_X8_noteRaces_18 hr10 hf
  have mE := J.1
  refine ⟨by omega, fun X g K ok nmx lev hK en => ?_⟩
  refine tj_iconst (v := 0) ok dX8_noteRaces_16 (by decide) ?_
  refine tj_istore_n (lv' := [(0, .inr (.inr (a0))), (1, .inl (a1)), (2, .inl (a2)), (3, .inl ((0 : Int32)))]) ok dX8_noteRaces_17 rfl (by decide) rfl ?_
  exact J.2 X g K ok nmx lev hK en
def b_X8_noteRaces_10 (r10 : Nat → Int32 → Int32 → AH → Option (AH)) (a0 : Nat) (a1 : Int32) (a2 : Int32) (h : AH) : Option (AH) :=
  if (8 : Int32) ≤ a2 then b_X8_noteRaces_115 h else b_X8_noteRaces_16 r10 a0 a1 a2 h
set_option maxHeartbeats 4000000 in
set_option maxRecDepth 100000 in
theorem q_X8_noteRaces_10 {hE : AH} {r10 : Nat → Int32 → Int32 → AH → Option (AH)} (hr10 : ∀ (b0 : Nat) (b1 : Int32) (b2 : Int32) (h : AH), r10 b0 b1 b2 h = some hE → JD cX8_noteRaces 4 RX8 "noteRaces" none (4) 10 [(0, .inr (.inr (b0))), (1, .inl (b1)), (2, .inl (b2))] [] h hE none) {a0 : Nat} {a1 : Int32} {a2 : Int32} {h : AH} (hf : b_X8_noteRaces_10 r10 a0 a1 a2 h = some hE) : JD cX8_noteRaces 4 RX8 "noteRaces" none (4) 10 [(0, .inr (.inr (a0))), (1, .inl (a1)), (2, .inl (a2))] [] h hE none := by
  unfold b_X8_noteRaces_10 at hf
  have mE : hp_n h ≤ hp_n hE ∧ hp_s h ≤ hp_s hE := by
    by_cases hc : (8 : Int32) ≤ a2
    · rw [if_pos hc] at hf; exact (q_X8_noteRaces_115 hf).1
    · rw [if_neg hc] at hf; exact (q_X8_noteRaces_16 hr10 hf).1
  refine ⟨by omega, fun X g K ok nmx lev hK en => ?_⟩
  refine tj_iload_n ok 2 dX8_noteRaces_10 rfl rfl ?_
  refine tj_bipush (v := 8) ok dX8_noteRaces_11 (by decide) ?_
  refine tj_icmp_ge (tgt := 115) ok dX8_noteRaces_13 (by decide) (fun hc => ?_) (fun hc => ?_)
  · rw [if_pos hc] at hf
    refine tj_sub (lv' := []) [] rfl ?_
    exact (q_X8_noteRaces_115 hf).2 X g K ok nmx lev hK en
  · rw [if_neg hc] at hf
    exact (q_X8_noteRaces_16 hr10 hf).2 X g K ok nmx lev hK en
def l_X8_noteRaces_10 : Nat → Nat → Int32 → Int32 → AH → Option (AH)
  | 0 => fun _ _ _ _ => none
  | n + 1 => fun a0 a1 a2 h => b_X8_noteRaces_10 (l_X8_noteRaces_10 n) a0 a1 a2 h
theorem ql_X8_noteRaces_10 {n : Nat} {a0 : Nat} {a1 : Int32} {a2 : Int32} {h hE : AH} (hf : l_X8_noteRaces_10 n a0 a1 a2 h = some hE) : JD cX8_noteRaces 4 RX8 "noteRaces" none (4) 10 [(0, .inr (.inr (a0))), (1, .inl (a1)), (2, .inl (a2))] [] h hE none := by
  induction n generalizing a0 a1 a2 h with
  | zero => cases hf
  | succ n ih => exact q_X8_noteRaces_10 (fun _ _ _ _ hf => ih hf) hf
def b_X8_noteRaces_0 (a0 : Nat) (h : AH) : Option (AH) :=
  (g_r h a0 8 0).bind fun x1 => (ok_v h x1 2).bind fun x2 => (f_X2_doneActions x1 h).bind fun q3 => l_X8_noteRaces_10 fu_ a0 q3.1 (1 : Int32) q3.2
set_option maxHeartbeats 4000000 in
set_option maxRecDepth 100000 in
theorem q_X8_noteRaces_0 {a0 : Nat} {h hE : AH} (hf : b_X8_noteRaces_0 a0 h = some hE) : JD cX8_noteRaces 4 RX8 "noteRaces" none (4) 0 [(0, .inr (.inr (a0)))] [] h hE none := by
  unfold b_X8_noteRaces_0 at hf
  obtain ⟨x1, e1, hf⟩ := bnd hf
  obtain ⟨x2, e2, hf⟩ := bnd hf
  obtain ⟨⟨x3, h3⟩, e3, hf⟩ := bnd hf
  try dsimp only at hf
  have k3 := c_X2_doneActions e3
  have m3 := (k3 default_g).1
  have J := ql_X8_noteRaces_10 hf
  have mE := J.1
  refine ⟨by omega, fun X g K ok nmx lev hK en => ?_⟩
  refine tj_aload_n ok 0 dX8_noteRaces_0 rfl rfl ?_
  refine tj_getR (k := 0) ok fcX8 (by decide) wm_177 rfl (Or.inl ⟨_, rfl⟩) dX8_noteRaces_1 e1 ?_
  refine tj_callV (rest := ([] : List TV).map (vl g)) (as := []) ok lev (by omega) fcX2.1 (by decide) rfl (of_if e2).1 (k3 g) (CaX.of en (by omega)) kn_X2_doneActions wm_391 wm_299 wm_300 (rs_ok (Nat.le_of_ble_eq_true rfl)) rfl rfl dX8_noteRaces_4 ?_
  refine tj_istore_n (lv' := [(0, .inr (.inr (a0))), (1, .inl (x3))]) ok dX8_noteRaces_7 rfl (by decide) rfl ?_
  refine tj_iconst (v := 1) ok dX8_noteRaces_8 (by decide) ?_
  refine tj_istore_n (lv' := [(0, .inr (.inr (a0))), (1, .inl (x3)), (2, .inl ((1 : Int32)))]) ok dX8_noteRaces_9 rfl (by decide) rfl ?_
  exact J.2 X g K ok nmx lev hK en
def f_X8_noteRaces (a0 : Nat) (h : AH) : Option (AH) := b_X8_noteRaces_0  a0 h
theorem c_X8_noteRaces {a0 : Nat} {h hE : AH} (hf : f_X8_noteRaces a0 h = some hE) : ∀ g : GT, CM g (4) yX8_noteRaces cX8_noteRaces 4 none h [.inr (.inr (a0))] hE none :=
  CM.ofJ (by decide) (by show _ ≤ 4; exact Nat.le_of_ble_eq_true rfl) (q_X8_noteRaces_0 hf)
/-! ===== LitmusHouse$Search.finish(I)V ===== -/
def b_X8_finish_163  (h : AH) : Option (AH) :=
  some h
set_option maxHeartbeats 4000000 in
set_option maxRecDepth 100000 in
theorem q_X8_finish_163 {h hE : AH} (hf : b_X8_finish_163  h = some hE) : JD cX8_finish 3 RX8 "finish" none (5) 163 [] [] h hE none := by
  unfold b_X8_finish_163 at hf
  have hh := Option.some.inj hf
  subst hh
  have mE : hp_n h ≤ hp_n h ∧ hp_s h ≤ hp_s h := ⟨Nat.le_refl _, Nat.le_refl _⟩
  refine ⟨by omega, fun X g K ok nmx lev hK en => ?_⟩
  exact tj_return ok en dX8_finish_163
def b_X8_finish_59 (a0 : Nat) (h : AH) : Option (AH) :=
  (ok_v h a0 8).bind fun x1 => (f_X8_noteOrder a0 h).bind fun h2 => b_X8_finish_163 h2
set_option maxHeartbeats 4000000 in
set_option maxRecDepth 100000 in
theorem q_X8_finish_59 {a0 : Nat} {h hE : AH} (hf : b_X8_finish_59 a0 h = some hE) : JD cX8_finish 3 RX8 "finish" none (5) 59 [(0, .inr (.inr (a0)))] [] h hE none := by
  unfold b_X8_finish_59 at hf
  obtain ⟨x1, e1, hf⟩ := bnd hf
  obtain ⟨h2, e2, hf⟩ := bnd hf
  have k2 := c_X8_noteOrder e2
  have m2 := (k2 default_g).1
  have J := q_X8_finish_163 hf
  have mE := J.1
  refine ⟨by omega, fun X g K ok nmx lev hK en => ?_⟩
  refine tj_aload_n ok 0 dX8_finish_59 rfl rfl ?_
  refine tj_callV (rest := ([] : List TV).map (vl g)) (as := []) ok lev (by omega) fcX8.1 (by decide) rfl (of_if e1).1 (k2 g) (CaX.of en (by omega)) kn_X8_noteOrder wm_404 wm_405 wm_406 (rs_ok (Nat.le_of_ble_eq_true rfl)) rfl rfl dX8_finish_60 ?_
  refine tj_goto (tgt := 163) ok dX8_finish_63 (by decide) ?_
  refine tj_sub (lv' := []) [] rfl ?_
  exact J.2 X g K ok nmx lev hK en
def b_X8_finish_40 (a0 : Nat) (a2 : Int32) (h : AH) : Option (AH) :=
  (g_r h a0 8 2).bind fun x1 => (ok_v h x1 3).bind fun x2 => (f_X3_add x1 a2 h).bind fun h3 => (g_r h3 a0 8 0).bind fun x4 => (g_i h3 x4 2 3).bind fun x5 => if x5 = (2 : Int32) then b_X8_finish_59 a0 h3 else b_X8_finish_163 h3
set_option maxHeartbeats 4000000 in
set_option maxRecDepth 100000 in
theorem q_X8_finish_40 {a0 : Nat} {a2 : Int32} {h hE : AH} (hf : b_X8_finish_40 a0 a2 h = some hE) : JD cX8_finish 3 RX8 "finish" none (5) 40 [(0, .inr (.inr (a0))), (2, .inl (a2))] [] h hE none := by
  unfold b_X8_finish_40 at hf
  obtain ⟨x1, e1, hf⟩ := bnd hf
  obtain ⟨x2, e2, hf⟩ := bnd hf
  obtain ⟨h3, e3, hf⟩ := bnd hf
  have k3 := c_X3_add e3
  have m3 := (k3 default_g).1
  obtain ⟨x4, e4, hf⟩ := bnd hf
  obtain ⟨x5, e5, hf⟩ := bnd hf
  have mE : hp_n h3 ≤ hp_n hE ∧ hp_s h3 ≤ hp_s hE := by
    by_cases hc : x5 = (2 : Int32)
    · rw [if_pos hc] at hf; exact (q_X8_finish_59 hf).1
    · rw [if_neg hc] at hf; exact (q_X8_finish_163 hf).1
  refine ⟨by omega, fun X g K ok nmx lev hK en => ?_⟩
  refine tj_aload_n ok 0 dX8_finish_40 rfl rfl ?_
  refine tj_getR (k := 2) ok fcX8 (by decide) wm_185 rfl (Or.inl ⟨_, rfl⟩) dX8_finish_41 e1 ?_
  refine tj_iload_n ok 1 dX8_finish_44 rfl rfl ?_
  refine tj_callV (rest := ([] : List TV).map (vl g)) (as := [.inl (a2)]) ok lev (by omega) fcX3.1 (by decide) rfl (of_if e2).1 (k3 g) (CaX.of en (by omega)) kn_X3_add wm_407 wm_408 wm_409 (rs_ok (Nat.le_of_ble_eq_true rfl)) rfl rfl dX8_finish_45 ?_
  refine tj_aload_n ok 0 dX8_finish_48 rfl rfl ?_
  refine tj_getR (k := 0) ok fcX8 (by decide) wm_177 rfl (Or.inl ⟨_, rfl⟩) dX8_finish_49 e4 ?_
  refine tj_getI (k := 3) ok fcX2 (by decide) wm_410 rfl (Or.inl rfl) dX8_finish_52 e5 ?_
  refine tj_iconst (v := 2) ok dX8_finish_55 (by decide) ?_
  refine tj_icmp_ne (tgt := 163) ok dX8_finish_56 (by decide) (fun hc => ?_) (fun hc => ?_)
  · rw [if_neg hc] at hf
    refine tj_sub (lv' := []) [] rfl ?_
    exact (q_X8_finish_163 hf).2 X g K ok nmx lev hK en
  · rw [if_pos hc] at hf
    refine tj_sub (lv' := [(0, .inr (.inr (a0)))]) [0] rfl ?_
    exact (q_X8_finish_59 hf).2 X g K ok nmx lev hK en
def b_X8_finish_97 (s0 : Nat) (s1 : Int32) (h : AH) : Option (AH) :=
  (p_z h s0 8 11 s1).bind fun h1 => b_X8_finish_163 h1
set_option maxHeartbeats 4000000 in
set_option maxRecDepth 100000 in
theorem q_X8_finish_97 {s0 : Nat} {s1 : Int32} {h hE : AH} (hf : b_X8_finish_97 s0 s1 h = some hE) : JD cX8_finish 3 RX8 "finish" none (5) 97 [] [.inl (s1), .inr (.inr (s0))] h hE none := by
  unfold b_X8_finish_97 at hf
  obtain ⟨h1, e1, hf⟩ := bnd hf
  have m1 := nn_pz e1
  have J := q_X8_finish_163 hf
  have mE := J.1
  refine ⟨by omega, fun X g K ok nmx lev hK en => ?_⟩
  refine tj_putZ (k := 11) ok fcX8 (by decide) wm_194 rfl (Or.inl rfl) rfl dX8_finish_97 e1 ?_
  refine tj_goto (tgt := 163) ok dX8_finish_100 (by decide) ?_
  exact J.2 X g K ok nmx lev hK en
def b_X8_finish_92 (s0 : Nat) (h : AH) : Option (AH) :=
  b_X8_finish_97 s0 (1 : Int32) h
set_option maxHeartbeats 4000000 in
set_option maxRecDepth 100000 in
theorem q_X8_finish_92 {s0 : Nat} {h hE : AH} (hf : b_X8_finish_92 s0 h = some hE) : JD cX8_finish 3 RX8 "finish" none (5) 92 [] [.inr (.inr (s0))] h hE none := by
  unfold b_X8_finish_92 at hf
  have J := q_X8_finish_97 hf
  have mE := J.1
  refine ⟨by omega, fun X g K ok nmx lev hK en => ?_⟩
  refine tj_iconst (v := 1) ok dX8_finish_92 (by decide) ?_
  refine tj_goto (tgt := 97) ok dX8_finish_93 (by decide) ?_
  exact J.2 X g K ok nmx lev hK en
def b_X8_finish_96 (s0 : Nat) (h : AH) : Option (AH) :=
  b_X8_finish_97 s0 (0 : Int32) h
set_option maxHeartbeats 4000000 in
set_option maxRecDepth 100000 in
theorem q_X8_finish_96 {s0 : Nat} {h hE : AH} (hf : b_X8_finish_96 s0 h = some hE) : JD cX8_finish 3 RX8 "finish" none (5) 96 [] [.inr (.inr (s0))] h hE none := by
  unfold b_X8_finish_96 at hf
  have J := q_X8_finish_97 hf
  have mE := J.1
  refine ⟨by omega, fun X g K ok nmx lev hK en => ?_⟩
  refine tj_iconst (v := 0) ok dX8_finish_96 (by decide) ?_
  exact J.2 X g K ok nmx lev hK en
def b_X8_finish_81 (a0 : Nat) (a2 : Int32) (s0 : Nat) (h : AH) : Option (AH) :=
  (g_r h a0 8 10).bind fun x1 => (f_X3_holds x1 a2 h).bind fun q2 => if q2.1 = 0 then b_X8_finish_92 s0 q2.2 else b_X8_finish_96 s0 q2.2
set_option maxHeartbeats 4000000 in
set_option maxRecDepth 100000 in
theorem q_X8_finish_81 {a0 : Nat} {a2 : Int32} {s0 : Nat} {h hE : AH} (hf : b_X8_finish_81 a0 a2 s0 h = some hE) : JD cX8_finish 3 RX8 "finish" none (5) 81 [(0, .inr (.inr (a0))), (2, .inl (a2))] [.inr (.inr (s0))] h hE none := by
  unfold b_X8_finish_81 at hf
  obtain ⟨x1, e1, hf⟩ := bnd hf
  obtain ⟨⟨x2, h2⟩, e2, hf⟩ := bnd hf
  try dsimp only at hf
  have k2 := c_X3_holds e2
  have m2 := (k2 default_g).1
  have mE : hp_n h2 ≤ hp_n hE ∧ hp_s h2 ≤ hp_s hE := by
    by_cases hc : x2 = 0
    · rw [if_pos hc] at hf; exact (q_X8_finish_92 hf).1
    · rw [if_neg hc] at hf; exact (q_X8_finish_96 hf).1
  refine ⟨by omega, fun X g K ok nmx lev hK en => ?_⟩
  refine tj_aload_n ok 0 dX8_finish_81 rfl rfl ?_
  refine tj_getR (k := 10) ok fcX8 (by decide) wm_193 rfl (Or.inr ⟨_, rfl⟩) dX8_finish_82 e1 ?_
  refine tj_iload_n ok 1 dX8_finish_85 rfl rfl ?_
  refine tj_callS (rest := ([.inr (.inr (s0))] : List TV).map (vl g)) (as := [.inr (.inr (x1)), .inl (a2)]) ok lev (by omega) (k2 g) (CaX.of en (by omega)) kn_X3_holds wm_411 wm_412 (rs_ok (Nat.le_of_ble_eq_true rfl)) rfl rfl dX8_finish_86 ?_
  refine tj_if_ne (tgt := 96) ok dX8_finish_89 (by decide) (fun hc => ?_) (fun hc => ?_)
  · rw [if_neg hc] at hf
    refine tj_sub (lv' := []) [] rfl ?_
    exact (q_X8_finish_96 hf).2 X g K ok nmx lev hK en
  · rw [if_pos hc] at hf
    refine tj_sub (lv' := []) [] rfl ?_
    exact (q_X8_finish_92 hf).2 X g K ok nmx lev hK en
def b_X8_finish_74 (a0 : Nat) (a2 : Int32) (s0 : Nat) (h : AH) : Option (AH) :=
  (g_r h a0 8 10).bind fun x1 => if x1 = 0 then b_X8_finish_96 s0 h else b_X8_finish_81 a0 a2 s0 h
set_option maxHeartbeats 4000000 in
set_option maxRecDepth 100000 in
theorem q_X8_finish_74 {a0 : Nat} {a2 : Int32} {s0 : Nat} {h hE : AH} (hf : b_X8_finish_74 a0 a2 s0 h = some hE) : JD cX8_finish 3 RX8 "finish" none (5) 74 [(0, .inr (.inr (a0))), (2, .inl (a2))] [.inr (.inr (s0))] h hE none := by
  unfold b_X8_finish_74 at hf
  obtain ⟨x1, e1, hf⟩ := bnd hf
  have mE : hp_n h ≤ hp_n hE ∧ hp_s h ≤ hp_s hE := by
    by_cases hc : x1 = 0
    · rw [if_pos hc] at hf; exact (q_X8_finish_96 hf).1
    · rw [if_neg hc] at hf; exact (q_X8_finish_81 hf).1
  refine ⟨by omega, fun X g K ok nmx lev hK en => ?_⟩
  refine tj_aload_n ok 0 dX8_finish_74 rfl rfl ?_
  refine tj_getR (k := 10) ok fcX8 (by decide) wm_193 rfl (Or.inr ⟨_, rfl⟩) dX8_finish_75 e1 ?_
  refine tj_ifnull (tgt := 96) ok dX8_finish_78 (by decide) (fun hc => ?_) (fun hc => ?_)
  · rw [if_pos hc] at hf
    refine tj_sub (lv' := []) [] rfl ?_
    exact (q_X8_finish_96 hf).2 X g K ok nmx lev hK en
  · rw [if_neg hc] at hf
    exact (q_X8_finish_81 hf).2 X g K ok nmx lev hK en
def b_X8_finish_66 (a0 : Nat) (a2 : Int32) (h : AH) : Option (AH) :=
  (g_i h a0 8 11).bind fun x1 => if x1 = 0 then b_X8_finish_74 a0 a2 a0 h else b_X8_finish_92 a0 h
set_option maxHeartbeats 4000000 in
set_option maxRecDepth 100000 in
theorem q_X8_finish_66 {a0 : Nat} {a2 : Int32} {h hE : AH} (hf : b_X8_finish_66 a0 a2 h = some hE) : JD cX8_finish 3 RX8 "finish" none (5) 66 [(0, .inr (.inr (a0))), (2, .inl (a2))] [] h hE none := by
  unfold b_X8_finish_66 at hf
  obtain ⟨x1, e1, hf⟩ := bnd hf
  have mE : hp_n h ≤ hp_n hE ∧ hp_s h ≤ hp_s hE := by
    by_cases hc : x1 = 0
    · rw [if_pos hc] at hf; exact (q_X8_finish_74 hf).1
    · rw [if_neg hc] at hf; exact (q_X8_finish_92 hf).1
  refine ⟨by omega, fun X g K ok nmx lev hK en => ?_⟩
  refine tj_aload_n ok 0 dX8_finish_66 rfl rfl ?_
  refine tj_aload_n ok 0 dX8_finish_67 rfl rfl ?_
  refine tj_getI (k := 11) ok fcX8 (by decide) wm_194 rfl (Or.inr rfl) dX8_finish_68 e1 ?_
  refine tj_if_ne (tgt := 92) ok dX8_finish_71 (by decide) (fun hc => ?_) (fun hc => ?_)
  · rw [if_neg hc] at hf
    refine tj_sub (lv' := []) [] rfl ?_
    exact (q_X8_finish_92 hf).2 X g K ok nmx lev hK en
  · rw [if_pos hc] at hf
    exact (q_X8_finish_74 hf).2 X g K ok nmx lev hK en
def b_X8_finish_129 (a0 : Nat) (a1 : Int32) (h : AH) : Option (AH) :=
  (p_i h a0 8 6 a1).bind fun h1 => (g_r h1 a0 8 3).bind fun x2 => (g_r h1 a0 8 4).bind fun x3 => (g_r h1 a0 8 3).bind fun x4 => (al_n h1 x4).bind fun x5 => (cp_a h1 x2 (0 : Int32) x3 (0 : Int32) (mn_i a1 x5)).bind fun h6 => b_X8_finish_163 h6
set_option maxHeartbeats 4000000 in
set_option maxRecDepth 100000 in
theorem q_X8_finish_129 {a0 : Nat} {a1 : Int32} {h hE : AH} (hf : b_X8_finish_129 a0 a1 h = some hE) : JD cX8_finish 3 RX8 "finish" none (5) 129 [(0, .inr (.inr (a0))), (1, .inl (a1))] [] h hE none := by
  unfold b_X8_finish_129 at hf
  obtain ⟨h1, e1, hf⟩ := bnd hf
  have m1 := nn_pi e1
  obtain ⟨x2, e2, hf⟩ := bnd hf
  obtain ⟨x3, e3, hf⟩ := bnd hf
  obtain ⟨x4, e4, hf⟩ := bnd hf
  obtain ⟨x5, e5, hf⟩ := bnd hf
  obtain ⟨h6, e6, hf⟩ := bnd hf
  have m6 := nn_cp e6
  have J := q_X8_finish_163 hf
  have mE := J.1
  refine ⟨by omega, fun X g K ok nmx lev hK en => ?_⟩
  refine tj_aload_n ok 0 dX8_finish_129 rfl rfl ?_
  refine tj_iload_n ok 1 dX8_finish_130 rfl rfl ?_
  refine tj_putI (k := 6) ok fcX8 (by decide) wm_189 rfl (Or.inl rfl) rfl dX8_finish_131 e1 ?_
  refine tj_aload_n ok 0 dX8_finish_134 rfl rfl ?_
  refine tj_getR (k := 3) ok fcX8 (by decide) wm_186 rfl (Or.inr ⟨_, rfl⟩) dX8_finish_135 e2 ?_
  refine tj_iconst (v := 0) ok dX8_finish_138 (by decide) ?_
  refine tj_aload_n ok 0 dX8_finish_139 rfl rfl ?_
  refine tj_getR (k := 4) ok fcX8 (by decide) wm_187 rfl (Or.inr ⟨_, rfl⟩) dX8_finish_140 e3 ?_
  refine tj_iconst (v := 0) ok dX8_finish_143 (by decide) ?_
  refine tj_iload_n ok 1 dX8_finish_144 rfl rfl ?_
  refine tj_aload_n ok 0 dX8_finish_145 rfl rfl ?_
  refine tj_getR (k := 3) ok fcX8 (by decide) wm_186 rfl (Or.inr ⟨_, rfl⟩) dX8_finish_146 e4 ?_
  refine tj_alen ok dX8_finish_149 e5 ?_
  refine tj_min (rest := ([.inl ((0 : Int32)), .inr (.inr (x3)), .inl ((0 : Int32)), .inr (.inr (x2))] : List TV).map (vl g)) ok lev (by omega) (CaX.of en (by omega)) wm_413 wm_41 wm_42 wm_43 (rs_ok (Nat.le_of_ble_eq_true rfl)) dX8_finish_150 ?_
  refine tj_acopy (rest := ([] : List TV).map (vl g)) ok lev (by omega) wm_414 wm_45 wm_46 wm_47 (rs_ok (Nat.le_of_ble_eq_true rfl)) e6 dX8_finish_153 ?_
  refine tj_goto (tgt := 163) ok dX8_finish_156 (by decide) ?_
  refine tj_sub (lv' := []) [] rfl ?_
  exact J.2 X g K ok nmx lev hK en
def b_X8_finish_118 (a0 : Nat) (a1 : Int32) (a2 : Int32) (h : AH) : Option (AH) :=
  (g_r h a0 8 9).bind fun x1 => (f_X3_meets a2 x1 h).bind fun q2 => if q2.1 = 0 then b_X8_finish_163 q2.2 else b_X8_finish_129 a0 a1 q2.2
set_option maxHeartbeats 4000000 in
set_option maxRecDepth 100000 in
theorem q_X8_finish_118 {a0 : Nat} {a1 : Int32} {a2 : Int32} {h hE : AH} (hf : b_X8_finish_118 a0 a1 a2 h = some hE) : JD cX8_finish 3 RX8 "finish" none (5) 118 [(0, .inr (.inr (a0))), (1, .inl (a1)), (2, .inl (a2))] [] h hE none := by
  unfold b_X8_finish_118 at hf
  obtain ⟨x1, e1, hf⟩ := bnd hf
  obtain ⟨⟨x2, h2⟩, e2, hf⟩ := bnd hf
  try dsimp only at hf
  have k2 := c_X3_meets e2
  have m2 := (k2 default_g).1
  have mE : hp_n h2 ≤ hp_n hE ∧ hp_s h2 ≤ hp_s hE := by
    by_cases hc : x2 = 0
    · rw [if_pos hc] at hf; exact (q_X8_finish_163 hf).1
    · rw [if_neg hc] at hf; exact (q_X8_finish_129 hf).1
  refine ⟨by omega, fun X g K ok nmx lev hK en => ?_⟩
  refine tj_iload_n ok 2 dX8_finish_118 rfl rfl ?_
  refine tj_aload_n ok 0 dX8_finish_119 rfl rfl ?_
  refine tj_getR (k := 9) ok fcX8 (by decide) wm_192 rfl (Or.inr ⟨_, rfl⟩) dX8_finish_120 e1 ?_
  refine tj_callS (rest := ([] : List TV).map (vl g)) (as := [.inl (a2), .inr (.inr (x1))]) ok lev (by omega) (k2 g) (CaX.of en (by omega)) kn_X3_meets wm_415 wm_416 (rs_ok (Nat.le_of_ble_eq_true rfl)) rfl rfl dX8_finish_123 ?_
  refine tj_if_eq (tgt := 163) ok dX8_finish_126 (by decide) (fun hc => ?_) (fun hc => ?_)
  · rw [if_pos hc] at hf
    refine tj_sub (lv' := []) [] rfl ?_
    exact (q_X8_finish_163 hf).2 X g K ok nmx lev hK en
  · rw [if_neg hc] at hf
    refine tj_sub (lv' := [(0, .inr (.inr (a0))), (1, .inl (a1))]) [0, 1] rfl ?_
    exact (q_X8_finish_129 hf).2 X g K ok nmx lev hK en
def b_X8_finish_111 (a0 : Nat) (a1 : Int32) (a2 : Int32) (h : AH) : Option (AH) :=
  (g_r h a0 8 9).bind fun x1 => if x1 = 0 then b_X8_finish_163 h else b_X8_finish_118 a0 a1 a2 h
set_option maxHeartbeats 4000000 in
set_option maxRecDepth 100000 in
theorem q_X8_finish_111 {a0 : Nat} {a1 : Int32} {a2 : Int32} {h hE : AH} (hf : b_X8_finish_111 a0 a1 a2 h = some hE) : JD cX8_finish 3 RX8 "finish" none (5) 111 [(0, .inr (.inr (a0))), (1, .inl (a1)), (2, .inl (a2))] [] h hE none := by
  unfold b_X8_finish_111 at hf
  obtain ⟨x1, e1, hf⟩ := bnd hf
  have mE : hp_n h ≤ hp_n hE ∧ hp_s h ≤ hp_s hE := by
    by_cases hc : x1 = 0
    · rw [if_pos hc] at hf; exact (q_X8_finish_163 hf).1
    · rw [if_neg hc] at hf; exact (q_X8_finish_118 hf).1
  refine ⟨by omega, fun X g K ok nmx lev hK en => ?_⟩
  refine tj_aload_n ok 0 dX8_finish_111 rfl rfl ?_
  refine tj_getR (k := 9) ok fcX8 (by decide) wm_192 rfl (Or.inr ⟨_, rfl⟩) dX8_finish_112 e1 ?_
  refine tj_ifnull (tgt := 163) ok dX8_finish_115 (by decide) (fun hc => ?_) (fun hc => ?_)
  · rw [if_pos hc] at hf
    refine tj_sub (lv' := []) [] rfl ?_
    exact (q_X8_finish_163 hf).2 X g K ok nmx lev hK en
  · rw [if_neg hc] at hf
    exact (q_X8_finish_118 hf).2 X g K ok nmx lev hK en
def b_X8_finish_103 (a0 : Nat) (a1 : Int32) (a2 : Int32) (h : AH) : Option (AH) :=
  (g_i h a0 8 6).bind fun x1 => if x1 ≤ a1 then b_X8_finish_163 h else b_X8_finish_111 a0 a1 a2 h
set_option maxHeartbeats 4000000 in
set_option maxRecDepth 100000 in
theorem q_X8_finish_103 {a0 : Nat} {a1 : Int32} {a2 : Int32} {h hE : AH} (hf : b_X8_finish_103 a0 a1 a2 h = some hE) : JD cX8_finish 3 RX8 "finish" none (5) 103 [(0, .inr (.inr (a0))), (1, .inl (a1)), (2, .inl (a2))] [] h hE none := by
  unfold b_X8_finish_103 at hf
  obtain ⟨x1, e1, hf⟩ := bnd hf
  have mE : hp_n h ≤ hp_n hE ∧ hp_s h ≤ hp_s hE := by
    by_cases hc : x1 ≤ a1
    · rw [if_pos hc] at hf; exact (q_X8_finish_163 hf).1
    · rw [if_neg hc] at hf; exact (q_X8_finish_111 hf).1
  refine ⟨by omega, fun X g K ok nmx lev hK en => ?_⟩
  refine tj_iload_n ok 1 dX8_finish_103 rfl rfl ?_
  refine tj_aload_n ok 0 dX8_finish_104 rfl rfl ?_
  refine tj_getI (k := 6) ok fcX8 (by decide) wm_189 rfl (Or.inl rfl) dX8_finish_105 e1 ?_
  refine tj_icmp_ge (tgt := 163) ok dX8_finish_108 (by decide) (fun hc => ?_) (fun hc => ?_)
  · rw [if_pos hc] at hf
    refine tj_sub (lv' := []) [] rfl ?_
    exact (q_X8_finish_163 hf).2 X g K ok nmx lev hK en
  · rw [if_neg hc] at hf
    exact (q_X8_finish_111 hf).2 X g K ok nmx lev hK en
def b_X8_finish_159 (a0 : Nat) (h : AH) : Option (AH) :=
  (ok_v h a0 8).bind fun x1 => (f_X8_noteRaces a0 h).bind fun h2 => b_X8_finish_163 h2
set_option maxHeartbeats 4000000 in
set_option maxRecDepth 100000 in
theorem q_X8_finish_159 {a0 : Nat} {h hE : AH} (hf : b_X8_finish_159 a0 h = some hE) : JD cX8_finish 3 RX8 "finish" none (5) 159 [(0, .inr (.inr (a0)))] [] h hE none := by
  unfold b_X8_finish_159 at hf
  obtain ⟨x1, e1, hf⟩ := bnd hf
  obtain ⟨h2, e2, hf⟩ := bnd hf
  have k2 := c_X8_noteRaces e2
  have m2 := (k2 default_g).1
  have J := q_X8_finish_163 hf
  have mE := J.1
  refine ⟨by omega, fun X g K ok nmx lev hK en => ?_⟩
  refine tj_aload_n ok 0 dX8_finish_159 rfl rfl ?_
  refine tj_callV (rest := ([] : List TV).map (vl g)) (as := []) ok lev (by omega) fcX8.1 (by decide) rfl (of_if e1).1 (k2 g) (CaX.of en (by omega)) kn_X8_noteRaces wm_417 wm_418 wm_419 (rs_ok (Nat.le_of_ble_eq_true rfl)) rfl rfl dX8_finish_160 ?_
  refine tj_sub (lv' := []) [] rfl ?_
  exact J.2 X g K ok nmx lev hK en
def b_X8_finish_0 (a0 : Nat) (a1 : Int32) (h : AH) : Option (AH) :=
  (g_r h a0 8 0).bind fun x1 => (ok_v h x1 2).bind fun x2 => (f_X2_outcome x1 h).bind fun q3 => (g_i q3.2 a0 8 8).bind fun x4 => if x4 = 0 then b_X8_finish_40 a0 q3.1 q3.2 else if x4 = 1 then b_X8_finish_66 a0 q3.1 q3.2 else if x4 = 2 then b_X8_finish_103 a0 a1 q3.1 q3.2 else b_X8_finish_159 a0 q3.2
set_option maxHeartbeats 4000000 in
set_option maxRecDepth 100000 in
theorem q_X8_finish_0 {a0 : Nat} {a1 : Int32} {h hE : AH} (hf : b_X8_finish_0 a0 a1 h = some hE) : JD cX8_finish 3 RX8 "finish" none (5) 0 [(0, .inr (.inr (a0))), (1, .inl (a1))] [] h hE none := by
  unfold b_X8_finish_0 at hf
  obtain ⟨x1, e1, hf⟩ := bnd hf
  obtain ⟨x2, e2, hf⟩ := bnd hf
  obtain ⟨⟨x3, h3⟩, e3, hf⟩ := bnd hf
  try dsimp only at hf
  have k3 := c_X2_outcome e3
  have m3 := (k3 default_g).1
  obtain ⟨x4, e4, hf⟩ := bnd hf
  have mE : hp_n h3 ≤ hp_n hE ∧ hp_s h3 ≤ hp_s hE := by
    by_cases hc0 : x4 = 0
    · rw [if_pos hc0] at hf; exact (q_X8_finish_40 hf).1
    rw [if_neg hc0] at hf
    by_cases hc1 : x4 = 1
    · rw [if_pos hc1] at hf; exact (q_X8_finish_66 hf).1
    rw [if_neg hc1] at hf
    by_cases hc2 : x4 = 2
    · rw [if_pos hc2] at hf; exact (q_X8_finish_103 hf).1
    rw [if_neg hc2] at hf
    exact (q_X8_finish_159 hf).1
  refine ⟨by omega, fun X g K ok nmx lev hK en => ?_⟩
  refine tj_aload_n ok 0 dX8_finish_0 rfl rfl ?_
  refine tj_getR (k := 0) ok fcX8 (by decide) wm_177 rfl (Or.inl ⟨_, rfl⟩) dX8_finish_1 e1 ?_
  refine tj_callV (rest := ([] : List TV).map (vl g)) (as := []) ok lev (by omega) fcX2.1 (by decide) rfl (of_if e2).1 (k3 g) (CaX.of en (by omega)) kn_X2_outcome wm_420 wm_421 wm_422 (rs_ok (Nat.le_of_ble_eq_true rfl)) rfl rfl dX8_finish_4 ?_
  refine tj_istore_n (lv' := [(0, .inr (.inr (a0))), (1, .inl (a1)), (2, .inl (x3))]) ok dX8_finish_7 rfl (by decide) rfl ?_
  refine tj_aload_n ok 0 dX8_finish_8 rfl rfl ?_
  refine tj_getI (k := 8) ok fcX8 (by decide) wm_191 rfl (Or.inl rfl) dX8_finish_9 e4 ?_
  by_cases hc0 : x4 = 0
  · rw [if_pos hc0] at hf
    have hx : (x4).toInt = 0 := by rw [hc0]; decide
    refine tj_tabIn (off := 28) (tgt := 40) ok dX8_finish_12 (by rw [hx]; decide) (by rw [hx]; decide) (by rw [hx]; decide) (by decide) ?_
    refine tj_sub (lv' := [(0, .inr (.inr (a0))), (2, .inl (x3))]) [0, 2] rfl ?_
    exact (q_X8_finish_40 hf).2 X g K ok nmx lev hK en
  rw [if_neg hc0] at hf
  have hn0 := tn_i (n := 0) (by decide) hc0
  have hp0 := tn_j hn0
  by_cases hc1 : x4 = 1
  · rw [if_pos hc1] at hf
    have hx : (x4).toInt = 1 := by rw [hc1]; decide
    refine tj_tabIn (off := 54) (tgt := 66) ok dX8_finish_12 (by rw [hx]; decide) (by rw [hx]; decide) (by rw [hx]; decide) (by decide) ?_
    refine tj_sub (lv' := [(0, .inr (.inr (a0))), (2, .inl (x3))]) [0, 2] rfl ?_
    exact (q_X8_finish_66 hf).2 X g K ok nmx lev hK en
  rw [if_neg hc1] at hf
  have hn1 := tn_i (n := 1) (by decide) hc1
  have hp1 := tn_j hn1
  by_cases hc2 : x4 = 2
  · rw [if_pos hc2] at hf
    have hx : (x4).toInt = 2 := by rw [hc2]; decide
    refine tj_tabIn (off := 91) (tgt := 103) ok dX8_finish_12 (by rw [hx]; decide) (by rw [hx]; decide) (by rw [hx]; decide) (by decide) ?_
    exact (q_X8_finish_103 hf).2 X g K ok nmx lev hK en
  rw [if_neg hc2] at hf
  have hn2 := tn_i (n := 2) (by decide) hc2
  have hp2 := tn_j hn2
  refine tj_tabOut (tgt := 159) ok dX8_finish_12 (by omega) (by decide) ?_
  refine tj_sub (lv' := [(0, .inr (.inr (a0)))]) [0] rfl ?_
  exact (q_X8_finish_159 hf).2 X g K ok nmx lev hK en
def f_X8_finish (a0 : Nat) (a1 : Int32) (h : AH) : Option (AH) := b_X8_finish_0  a0 a1 h
theorem c_X8_finish {a0 : Nat} {a1 : Int32} {h hE : AH} (hf : f_X8_finish a0 a1 h = some hE) : ∀ g : GT, CM g (5) yX8_finish cX8_finish 3 none h [.inr (.inr (a0)), .inl (a1)] hE none :=
  CM.ofJ (by decide) (by show _ ≤ 3; exact Nat.le_of_ble_eq_true rfl) (q_X8_finish_0 hf)
/-! ===== LitmusHouse$Search.hurryingThread()I ===== -/
def b_X8_hurryingThread_45  (h : AH) : Option (Int32 × AH) :=
  some ((-1 : Int32), h)
set_option maxHeartbeats 4000000 in
set_option maxRecDepth 100000 in
theorem q_X8_hurryingThread_45 {h hE : AH} {v : Int32} (hf : b_X8_hurryingThread_45  h = some (v, hE)) : JD cX8_hurryingThread 2 RX8 "hurryingThread" (some .int) (4) 45 [] [] h hE (some (.inl (v))) := by
  unfold b_X8_hurryingThread_45 at hf
  obtain ⟨hv, hh⟩ := Prod.mk.inj (Option.some.inj hf)
  subst hv
  subst hh
  have mE : hp_n h ≤ hp_n h ∧ hp_s h ≤ hp_s h := ⟨Nat.le_refl _, Nat.le_refl _⟩
  refine ⟨by omega, fun X g K ok nmx lev hK en => ?_⟩
  refine tj_iconst (v := -1) ok dX8_hurryingThread_45 (by decide) ?_
  exact tj_ireturn ok en dX8_hurryingThread_46
def b_X8_hurryingThread_39 (r12 : Nat → Int32 → AH → Option (Int32 × AH)) (a0 : Nat) (a1 : Int32) (h : AH) : Option (Int32 × AH) :=
  r12 a0 (a1 + (1 : Int32)) h
set_option maxHeartbeats 4000000 in
set_option maxRecDepth 100000 in
theorem q_X8_hurryingThread_39 {hE : AH} {v : Int32} {r12 : Nat → Int32 → AH → Option (Int32 × AH)} (hr12 : ∀ (b0 : Nat) (b1 : Int32) (h : AH), r12 b0 b1 h = some (v, hE) → JD cX8_hurryingThread 2 RX8 "hurryingThread" (some .int) (4) 12 [(0, .inr (.inr (b0))), (1, .inl (b1))] [] h hE (some (.inl (v)))) {a0 : Nat} {a1 : Int32} {h : AH} (hf : b_X8_hurryingThread_39 r12 a0 a1 h = some (v, hE)) : JD cX8_hurryingThread 2 RX8 "hurryingThread" (some .int) (4) 39 [(0, .inr (.inr (a0))), (1, .inl (a1))] [] h hE (some (.inl (v))) := by
  unfold b_X8_hurryingThread_39 at hf
  have J := hr12 _ _ _ hf
  have mE := J.1
  refine ⟨by omega, fun X g K ok nmx lev hK en => ?_⟩
  refine tj_iinc (lv' := [(0, .inr (.inr (a0))), (1, .inl (a1 + (1 : Int32)))]) ok 1 dX8_hurryingThread_39 rfl (rfl) (by decide) rfl ?_
  refine tj_goto (tgt := 12) ok dX8_hurryingThread_42 (by decide) ?_
  exact J.2 X g K ok nmx lev hK en
def b_X8_hurryingThread_37 (a1 : Int32) (h : AH) : Option (Int32 × AH) :=
  some (a1, h)
set_option maxHeartbeats 4000000 in
set_option maxRecDepth 100000 in
theorem q_X8_hurryingThread_37 {a1 : Int32} {h hE : AH} {v : Int32} (hf : b_X8_hurryingThread_37 a1 h = some (v, hE)) : JD cX8_hurryingThread 2 RX8 "hurryingThread" (some .int) (4) 37 [(1, .inl (a1))] [] h hE (some (.inl (v))) := by
  unfold b_X8_hurryingThread_37 at hf
  obtain ⟨hv, hh⟩ := Prod.mk.inj (Option.some.inj hf)
  subst hv
  subst hh
  have mE : hp_n h ≤ hp_n h ∧ hp_s h ≤ hp_s h := ⟨Nat.le_refl _, Nat.le_refl _⟩
  refine ⟨by omega, fun X g K ok nmx lev hK en => ?_⟩
  refine tj_iload_n ok 0 dX8_hurryingThread_37 rfl rfl ?_
  exact tj_ireturn ok en dX8_hurryingThread_38
def b_X8_hurryingThread_26 (r12 : Nat → Int32 → AH → Option (Int32 × AH)) (a0 : Nat) (a1 : Int32) (h : AH) : Option (Int32 × AH) :=
  (g_r h a0 8 0).bind fun x1 => (ok_v h x1 2).bind fun x2 => (f_X2_mayHurry x1 a1 h).bind fun q3 => if q3.1 = 0 then b_X8_hurryingThread_39 r12 a0 a1 q3.2 else b_X8_hurryingThread_37 a1 q3.2
set_option maxHeartbeats 4000000 in
set_option maxRecDepth 100000 in
theorem q_X8_hurryingThread_26 {hE : AH} {v : Int32} {r12 : Nat → Int32 → AH → Option (Int32 × AH)} (hr12 : ∀ (b0 : Nat) (b1 : Int32) (h : AH), r12 b0 b1 h = some (v, hE) → JD cX8_hurryingThread 2 RX8 "hurryingThread" (some .int) (4) 12 [(0, .inr (.inr (b0))), (1, .inl (b1))] [] h hE (some (.inl (v)))) {a0 : Nat} {a1 : Int32} {h : AH} (hf : b_X8_hurryingThread_26 r12 a0 a1 h = some (v, hE)) : JD cX8_hurryingThread 2 RX8 "hurryingThread" (some .int) (4) 26 [(0, .inr (.inr (a0))), (1, .inl (a1))] [] h hE (some (.inl (v))) := by
  unfold b_X8_hurryingThread_26 at hf
  obtain ⟨x1, e1, hf⟩ := bnd hf
  obtain ⟨x2, e2, hf⟩ := bnd hf
  obtain ⟨⟨x3, h3⟩, e3, hf⟩ := bnd hf
  try dsimp only at hf
  have k3 := c_X2_mayHurry e3
  have m3 := (k3 default_g).1
  have mE : hp_n h3 ≤ hp_n hE ∧ hp_s h3 ≤ hp_s hE := by
    by_cases hc : x3 = 0
    · rw [if_pos hc] at hf; exact (q_X8_hurryingThread_39 hr12 hf).1
    · rw [if_neg hc] at hf; exact (q_X8_hurryingThread_37 hf).1
  refine ⟨by omega, fun X g K ok nmx lev hK en => ?_⟩
  refine tj_aload_n ok 0 dX8_hurryingThread_26 rfl rfl ?_
  refine tj_getR (k := 0) ok fcX8 (by decide) wm_177 rfl (Or.inl ⟨_, rfl⟩) dX8_hurryingThread_27 e1 ?_
  refine tj_iload_n ok 1 dX8_hurryingThread_30 rfl rfl ?_
  refine tj_callV (rest := ([] : List TV).map (vl g)) (as := [.inl (a1)]) ok lev (by omega) fcX2.1 (by decide) rfl (of_if e2).1 (k3 g) (CaX.of en (by omega)) kn_X2_mayHurry wm_425 wm_426 wm_427 (rs_ok (Nat.le_of_ble_eq_true rfl)) rfl rfl dX8_hurryingThread_31 ?_
  refine tj_if_eq (tgt := 39) ok dX8_hurryingThread_34 (by decide) (fun hc => ?_) (fun hc => ?_)
  · rw [if_pos hc] at hf
    exact (q_X8_hurryingThread_39 hr12 hf).2 X g K ok nmx lev hK en
  · rw [if_neg hc] at hf
    refine tj_sub (lv' := [(1, .inl (a1))]) [1] rfl ?_
    exact (q_X8_hurryingThread_37 hf).2 X g K ok nmx lev hK en
def b_X8_hurryingThread_12 (r12 : Nat → Int32 → AH → Option (Int32 × AH)) (a0 : Nat) (a1 : Int32) (h : AH) : Option (Int32 × AH) :=
  (g_r h a0 8 7).bind fun x1 => (g_r h x1 5 0).bind fun x2 => (g_i h x2 0 11).bind fun x3 => if x3 ≤ a1 then b_X8_hurryingThread_45 h else b_X8_hurryingThread_26 r12 a0 a1 h
set_option maxHeartbeats 4000000 in
set_option maxRecDepth 100000 in
theorem q_X8_hurryingThread_12 {hE : AH} {v : Int32} {r12 : Nat → Int32 → AH → Option (Int32 × AH)} (hr12 : ∀ (b0 : Nat) (b1 : Int32) (h : AH), r12 b0 b1 h = some (v, hE) → JD cX8_hurryingThread 2 RX8 "hurryingThread" (some .int) (4) 12 [(0, .inr (.inr (b0))), (1, .inl (b1))] [] h hE (some (.inl (v)))) {a0 : Nat} {a1 : Int32} {h : AH} (hf : b_X8_hurryingThread_12 r12 a0 a1 h = some (v, hE)) : JD cX8_hurryingThread 2 RX8 "hurryingThread" (some .int) (4) 12 [(0, .inr (.inr (a0))), (1, .inl (a1))] [] h hE (some (.inl (v))) := by
  unfold b_X8_hurryingThread_12 at hf
  obtain ⟨x1, e1, hf⟩ := bnd hf
  obtain ⟨x2, e2, hf⟩ := bnd hf
  obtain ⟨x3, e3, hf⟩ := bnd hf
  have mE : hp_n h ≤ hp_n hE ∧ hp_s h ≤ hp_s hE := by
    by_cases hc : x3 ≤ a1
    · rw [if_pos hc] at hf; exact (q_X8_hurryingThread_45 hf).1
    · rw [if_neg hc] at hf; exact (q_X8_hurryingThread_26 hr12 hf).1
  refine ⟨by omega, fun X g K ok nmx lev hK en => ?_⟩
  refine tj_iload_n ok 1 dX8_hurryingThread_12 rfl rfl ?_
  refine tj_aload_n ok 0 dX8_hurryingThread_13 rfl rfl ?_
  refine tj_getR (k := 7) ok fcX8 (by decide) wm_190 rfl (Or.inl ⟨_, rfl⟩) dX8_hurryingThread_14 e1 ?_
  refine tj_getR (k := 0) ok fcX5 (by decide) wm_279 rfl (Or.inl ⟨_, rfl⟩) dX8_hurryingThread_17 e2 ?_
  refine tj_getI (k := 11) ok fcX0 (by decide) wm_428 rfl (Or.inl rfl) dX8_hurryingThread_20 e3 ?_
  refine tj_icmp_ge (tgt := 45) ok dX8_hurryingThread_23 (by decide) (fun hc => ?_) (fun hc => ?_)
  · rw [if_pos hc] at hf
    refine tj_sub (lv' := []) [] rfl ?_
    exact (q_X8_hurryingThread_45 hf).2 X g K ok nmx lev hK en
  · rw [if_neg hc] at hf
    exact (q_X8_hurryingThread_26 hr12 hf).2 X g K ok nmx lev hK en
def l_X8_hurryingThread_12 : Nat → Nat → Int32 → AH → Option (Int32 × AH)
  | 0 => fun _ _ _ => none
  | n + 1 => fun a0 a1 h => b_X8_hurryingThread_12 (l_X8_hurryingThread_12 n) a0 a1 h
theorem ql_X8_hurryingThread_12 {n : Nat} {a0 : Nat} {a1 : Int32} {h hE : AH} {v : Int32} (hf : l_X8_hurryingThread_12 n a0 a1 h = some (v, hE)) : JD cX8_hurryingThread 2 RX8 "hurryingThread" (some .int) (4) 12 [(0, .inr (.inr (a0))), (1, .inl (a1))] [] h hE (some (.inl (v))) := by
  induction n generalizing a0 a1 h with
  | zero => cases hf
  | succ n ih => exact q_X8_hurryingThread_12 (fun _ _ _ hf => ih hf) hf
def b_X8_hurryingThread_10 (a0 : Nat) (h : AH) : Option (Int32 × AH) :=
  l_X8_hurryingThread_12 fu_ a0 (0 : Int32) h
set_option maxHeartbeats 4000000 in
set_option maxRecDepth 100000 in
theorem q_X8_hurryingThread_10 {a0 : Nat} {h hE : AH} {v : Int32} (hf : b_X8_hurryingThread_10 a0 h = some (v, hE)) : JD cX8_hurryingThread 2 RX8 "hurryingThread" (some .int) (4) 10 [(0, .inr (.inr (a0)))] [] h hE (some (.inl (v))) := by
  unfold b_X8_hurryingThread_10 at hf
  have J := ql_X8_hurryingThread_12 hf
  have mE := J.1
  refine ⟨by omega, fun X g K ok nmx lev hK en => ?_⟩
  refine tj_iconst (v := 0) ok dX8_hurryingThread_10 (by decide) ?_
  refine tj_istore_n (lv' := [(0, .inr (.inr (a0))), (1, .inl ((0 : Int32)))]) ok dX8_hurryingThread_11 rfl (by decide) rfl ?_
  exact J.2 X g K ok nmx lev hK en
def b_X8_hurryingThread_8  (h : AH) : Option (Int32 × AH) :=
  some ((-1 : Int32), h)
set_option maxHeartbeats 4000000 in
set_option maxRecDepth 100000 in
theorem q_X8_hurryingThread_8 {h hE : AH} {v : Int32} (hf : b_X8_hurryingThread_8  h = some (v, hE)) : JD cX8_hurryingThread 2 RX8 "hurryingThread" (some .int) (4) 8 [] [] h hE (some (.inl (v))) := by
  unfold b_X8_hurryingThread_8 at hf
  obtain ⟨hv, hh⟩ := Prod.mk.inj (Option.some.inj hf)
  subst hv
  subst hh
  have mE : hp_n h ≤ hp_n h ∧ hp_s h ≤ hp_s h := ⟨Nat.le_refl _, Nat.le_refl _⟩
  refine ⟨by omega, fun X g K ok nmx lev hK en => ?_⟩
  refine tj_iconst (v := -1) ok dX8_hurryingThread_8 (by decide) ?_
  exact tj_ireturn ok en dX8_hurryingThread_9
def b_X8_hurryingThread_0 (a0 : Nat) (h : AH) : Option (Int32 × AH) :=
  (g_i h a0 8 8).bind fun x1 => if x1 = (2 : Int32) then b_X8_hurryingThread_8 h else b_X8_hurryingThread_10 a0 h
set_option maxHeartbeats 4000000 in
set_option maxRecDepth 100000 in
theorem q_X8_hurryingThread_0 {a0 : Nat} {h hE : AH} {v : Int32} (hf : b_X8_hurryingThread_0 a0 h = some (v, hE)) : JD cX8_hurryingThread 2 RX8 "hurryingThread" (some .int) (4) 0 [(0, .inr (.inr (a0)))] [] h hE (some (.inl (v))) := by
  unfold b_X8_hurryingThread_0 at hf
  obtain ⟨x1, e1, hf⟩ := bnd hf
  have mE : hp_n h ≤ hp_n hE ∧ hp_s h ≤ hp_s hE := by
    by_cases hc : x1 = (2 : Int32)
    · rw [if_pos hc] at hf; exact (q_X8_hurryingThread_8 hf).1
    · rw [if_neg hc] at hf; exact (q_X8_hurryingThread_10 hf).1
  refine ⟨by omega, fun X g K ok nmx lev hK en => ?_⟩
  refine tj_aload_n ok 0 dX8_hurryingThread_0 rfl rfl ?_
  refine tj_getI (k := 8) ok fcX8 (by decide) wm_191 rfl (Or.inl rfl) dX8_hurryingThread_1 e1 ?_
  refine tj_iconst (v := 2) ok dX8_hurryingThread_4 (by decide) ?_
  refine tj_icmp_ne (tgt := 10) ok dX8_hurryingThread_5 (by decide) (fun hc => ?_) (fun hc => ?_)
  · rw [if_neg hc] at hf
    exact (q_X8_hurryingThread_10 hf).2 X g K ok nmx lev hK en
  · rw [if_pos hc] at hf
    refine tj_sub (lv' := []) [] rfl ?_
    exact (q_X8_hurryingThread_8 hf).2 X g K ok nmx lev hK en
def f_X8_hurryingThread (a0 : Nat) (h : AH) : Option (Int32 × AH) := b_X8_hurryingThread_0  a0 h
theorem c_X8_hurryingThread {a0 : Nat} {h hE : AH} {v : Int32} (hf : f_X8_hurryingThread a0 h = some (v, hE)) : ∀ g : GT, CM g (4) yX8_hurryingThread cX8_hurryingThread 2 (some .int) h [.inr (.inr (a0))] hE (some (.inl (v))) :=
  CM.ofJ (by decide) (by show _ ≤ 2; exact Nat.le_of_ble_eq_true rfl) (q_X8_hurryingThread_0 hf)
/-! ===== LitmusHouse$Search.visit(JJJI)V ===== -/
def b_X8_visit_28 (rc : Nat → Int64 → Int64 → Int64 → Int32 → AH → Option (AH))  (h : AH) : Option (AH) :=
  some h
set_option maxHeartbeats 4000000 in
set_option maxRecDepth 100000 in
theorem q_X8_visit_28 {rc : Nat → Int64 → Int64 → Int64 → Int32 → AH → Option (AH)} {kd : Nat} (hrc : ∀ {c0 : Nat} {c1 : Int64} {c2 : Int64} {c3 : Int64} {c4 : Int32} {h h1 : AH} , rc c0 c1 c2 c3 c4 h = some h1 → ∀ g : GT, CM g (kd) yX8_visit cX8_visit 13 none h [.inr (.inr (c0)), .inr (.inl (c1)), .inr (.inl (c2)), .inr (.inl (c3)), .inl (c4)] h1 none) {h hE : AH} (hf : b_X8_visit_28 rc  h = some hE) : JD cX8_visit 13 RX8 "visit" none (kd + 6) 28 [] [] h hE none := by
  unfold b_X8_visit_28 at hf
  have hh := Option.some.inj hf
  subst hh
  have mE : hp_n h ≤ hp_n h ∧ hp_s h ≤ hp_s h := ⟨Nat.le_refl _, Nat.le_refl _⟩
  refine ⟨by omega, fun X g K ok nmx lev hK en => ?_⟩
  exact tj_return ok en dX8_visit_28
def b_X8_visit_165 (rc : Nat → Int64 → Int64 → Int64 → Int32 → AH → Option (AH))  (h : AH) : Option (AH) :=
  some h
set_option maxHeartbeats 4000000 in
set_option maxRecDepth 100000 in
theorem q_X8_visit_165 {rc : Nat → Int64 → Int64 → Int64 → Int32 → AH → Option (AH)} {kd : Nat} (hrc : ∀ {c0 : Nat} {c1 : Int64} {c2 : Int64} {c3 : Int64} {c4 : Int32} {h h1 : AH} , rc c0 c1 c2 c3 c4 h = some h1 → ∀ g : GT, CM g (kd) yX8_visit cX8_visit 13 none h [.inr (.inr (c0)), .inr (.inl (c1)), .inr (.inl (c2)), .inr (.inl (c3)), .inl (c4)] h1 none) {h hE : AH} (hf : b_X8_visit_165 rc  h = some hE) : JD cX8_visit 13 RX8 "visit" none (kd + 6) 165 [] [] h hE none := by
  unfold b_X8_visit_165 at hf
  have hh := Option.some.inj hf
  subst hh
  have mE : hp_n h ≤ hp_n h ∧ hp_s h ≤ hp_s h := ⟨Nat.le_refl _, Nat.le_refl _⟩
  refine ⟨by omega, fun X g K ok nmx lev hK en => ?_⟩
  exact tj_return ok en dX8_visit_165
def b_X8_visit_148 (rc : Nat → Int64 → Int64 → Int64 → Int32 → AH → Option (AH)) (a0 : Nat) (a1 : Int64) (a3 : Int64) (a5 : Int64) (a7 : Int32) (h : AH) : Option (AH) :=
  (g_r h a0 8 0).bind fun x1 => (ok_v h x1 2).bind fun x2 => (f_X2_set x1 a1 a3 a5 h).bind fun h3 => (ok_v h3 a0 8).bind fun x4 => (f_X8_finish a0 a7 h3).bind fun h5 => b_X8_visit_165 rc h5
set_option maxHeartbeats 4000000 in
set_option maxRecDepth 100000 in
theorem q_X8_visit_148 {rc : Nat → Int64 → Int64 → Int64 → Int32 → AH → Option (AH)} {kd : Nat} (hrc : ∀ {c0 : Nat} {c1 : Int64} {c2 : Int64} {c3 : Int64} {c4 : Int32} {h h1 : AH} , rc c0 c1 c2 c3 c4 h = some h1 → ∀ g : GT, CM g (kd) yX8_visit cX8_visit 13 none h [.inr (.inr (c0)), .inr (.inl (c1)), .inr (.inl (c2)), .inr (.inl (c3)), .inl (c4)] h1 none) {a0 : Nat} {a1 : Int64} {a3 : Int64} {a5 : Int64} {a7 : Int32} {h hE : AH} (hf : b_X8_visit_148 rc a0 a1 a3 a5 a7 h = some hE) : JD cX8_visit 13 RX8 "visit" none (kd + 6) 148 [(0, .inr (.inr (a0))), (1, .inr (.inl (a1))), (3, .inr (.inl (a3))), (5, .inr (.inl (a5))), (7, .inl (a7))] [] h hE none := by
  unfold b_X8_visit_148 at hf
  obtain ⟨x1, e1, hf⟩ := bnd hf
  obtain ⟨x2, e2, hf⟩ := bnd hf
  obtain ⟨h3, e3, hf⟩ := bnd hf
  have k3 := c_X2_set e3
  have m3 := (k3 default_g).1
  obtain ⟨x4, e4, hf⟩ := bnd hf
  obtain ⟨h5, e5, hf⟩ := bnd hf
  have k5 := c_X8_finish e5
  have m5 := (k5 default_g).1
  have J := q_X8_visit_165 hrc hf
  have mE := J.1
  refine ⟨by omega, fun X g K ok nmx lev hK en => ?_⟩
  refine tj_aload_n ok 0 dX8_visit_148 rfl rfl ?_
  refine tj_getR (k := 0) ok fcX8 (by decide) wm_177 rfl (Or.inl ⟨_, rfl⟩) dX8_visit_149 e1 ?_
  refine tj_lload_n ok 1 dX8_visit_152 rfl rfl ?_
  refine tj_lload_n ok 2 dX8_visit_153 rfl rfl ?_
  refine tj_lload ok 3 dX8_visit_154 rfl ?_
  refine tj_callV (rest := ([] : List TV).map (vl g)) (as := [.inr (.inl (a1)), .inr (.inl (a3)), .inr (.inl (a5))]) ok lev (by omega) fcX2.1 (by decide) rfl (of_if e2).1 (k3 g) (CaX.of en (by omega)) kn_X2_set wm_358 wm_266 wm_267 (rs_ok (Nat.le_of_ble_eq_true rfl)) rfl rfl dX8_visit_156 ?_
  refine tj_aload_n ok 0 dX8_visit_159 rfl rfl ?_
  refine tj_iload ok 4 dX8_visit_160 rfl ?_
  refine tj_callV (rest := ([] : List TV).map (vl g)) (as := [.inl (a7)]) ok lev (by omega) fcX8.1 (by decide) rfl (of_if e4).1 (k5 g) (CaX.of en (by omega)) kn_X8_finish wm_447 wm_448 wm_449 (rs_ok (Nat.le_of_ble_eq_true rfl)) rfl rfl dX8_visit_162 ?_
  refine tj_sub (lv' := []) [] rfl ?_
  exact J.2 X g K ok nmx lev hK en
def b_X8_visit_143 (rc : Nat → Int64 → Int64 → Int64 → Int32 → AH → Option (AH)) (a0 : Nat) (a1 : Int64) (a3 : Int64) (a5 : Int64) (a7 : Int32) (a9 : Int32) (h : AH) : Option (AH) :=
  if a9 = 0 then b_X8_visit_148 rc a0 a1 a3 a5 a7 h else b_X8_visit_165 rc h
set_option maxHeartbeats 4000000 in
set_option maxRecDepth 100000 in
theorem q_X8_visit_143 {rc : Nat → Int64 → Int64 → Int64 → Int32 → AH → Option (AH)} {kd : Nat} (hrc : ∀ {c0 : Nat} {c1 : Int64} {c2 : Int64} {c3 : Int64} {c4 : Int32} {h h1 : AH} , rc c0 c1 c2 c3 c4 h = some h1 → ∀ g : GT, CM g (kd) yX8_visit cX8_visit 13 none h [.inr (.inr (c0)), .inr (.inl (c1)), .inr (.inl (c2)), .inr (.inl (c3)), .inl (c4)] h1 none) {a0 : Nat} {a1 : Int64} {a3 : Int64} {a5 : Int64} {a7 : Int32} {a9 : Int32} {h hE : AH} (hf : b_X8_visit_143 rc a0 a1 a3 a5 a7 a9 h = some hE) : JD cX8_visit 13 RX8 "visit" none (kd + 6) 143 [(0, .inr (.inr (a0))), (1, .inr (.inl (a1))), (3, .inr (.inl (a3))), (5, .inr (.inl (a5))), (7, .inl (a7)), (9, .inl (a9))] [] h hE none := by
  unfold b_X8_visit_143 at hf
  have mE : hp_n h ≤ hp_n hE ∧ hp_s h ≤ hp_s hE := by
    by_cases hc : a9 = 0
    · rw [if_pos hc] at hf; exact (q_X8_visit_148 hrc hf).1
    · rw [if_neg hc] at hf; exact (q_X8_visit_165 hrc hf).1
  refine ⟨by omega, fun X g K ok nmx lev hK en => ?_⟩
  refine tj_iload ok 5 dX8_visit_143 rfl ?_
  refine tj_if_ne (tgt := 165) ok dX8_visit_145 (by decide) (fun hc => ?_) (fun hc => ?_)
  · rw [if_neg hc] at hf
    refine tj_sub (lv' := []) [] rfl ?_
    exact (q_X8_visit_165 hrc hf).2 X g K ok nmx lev hK en
  · rw [if_pos hc] at hf
    refine tj_sub (lv' := [(0, .inr (.inr (a0))), (1, .inr (.inl (a1))), (3, .inr (.inl (a3))), (5, .inr (.inl (a5))), (7, .inl (a7))]) [0, 1, 2, 3, 4] rfl ?_
    exact (q_X8_visit_148 hrc hf).2 X g K ok nmx lev hK en
def b_X8_visit_135 (rc : Nat → Int64 → Int64 → Int64 → Int32 → AH → Option (AH)) (r72 : Nat → Int64 → Int64 → Int64 → Int32 → Int32 → Int32 → AH → Option (AH)) (a0 : Nat) (a1 : Int64) (a3 : Int64) (a5 : Int64) (a7 : Int32) (a10 : Int32) (s0 : Int32) (h : AH) : Option (AH) :=
  r72 a0 a1 a3 a5 a7 s0 (a10 + (1 : Int32)) h
set_option maxHeartbeats 4000000 in
set_option maxRecDepth 100000 in
theorem q_X8_visit_135 {hE : AH} {rc : Nat → Int64 → Int64 → Int64 → Int32 → AH → Option (AH)} {kd : Nat} (hrc : ∀ {c0 : Nat} {c1 : Int64} {c2 : Int64} {c3 : Int64} {c4 : Int32} {h h1 : AH} , rc c0 c1 c2 c3 c4 h = some h1 → ∀ g : GT, CM g (kd) yX8_visit cX8_visit 13 none h [.inr (.inr (c0)), .inr (.inl (c1)), .inr (.inl (c2)), .inr (.inl (c3)), .inl (c4)] h1 none) {r72 : Nat → Int64 → Int64 → Int64 → Int32 → Int32 → Int32 → AH → Option (AH)} (hr72 : ∀ (b0 : Nat) (b1 : Int64) (b3 : Int64) (b5 : Int64) (b7 : Int32) (b9 : Int32) (b10 : Int32) (h : AH), r72 b0 b1 b3 b5 b7 b9 b10 h = some hE → JD cX8_visit 13 RX8 "visit" none (kd + 6) 72 [(0, .inr (.inr (b0))), (1, .inr (.inl (b1))), (3, .inr (.inl (b3))), (5, .inr (.inl (b5))), (7, .inl (b7)), (9, .inl (b9)), (10, .inl (b10))] [] h hE none) {a0 : Nat} {a1 : Int64} {a3 : Int64} {a5 : Int64} {a7 : Int32} {a10 : Int32} {s0 : Int32} {h : AH} (hf : b_X8_visit_135 rc r72 a0 a1 a3 a5 a7 a10 s0 h = some hE) : JD cX8_visit 13 RX8 "visit" none (kd + 6) 135 [(0, .inr (.inr (a0))), (1, .inr (.inl (a1))), (3, .inr (.inl (a3))), (5, .inr (.inl (a5))), (7, .inl (a7)), (10, .inl (a10))] [.inl (s0)] h hE none := by
  unfold b_X8_visit_135 at hf
  have J := hr72 _ _ _ _ _ _ _ _ hf
  have mE := J.1
  refine ⟨by omega, fun X g K ok nmx lev hK en => ?_⟩
  refine tj_istore (lv' := [(0, .inr (.inr (a0))), (1, .inr (.inl (a1))), (3, .inr (.inl (a3))), (5, .inr (.inl (a5))), (7, .inl (a7)), (9, .inl (s0)), (10, .inl (a10))]) ok dX8_visit_135 (by decide) rfl ?_
  refine tj_iinc (lv' := [(0, .inr (.inr (a0))), (1, .inr (.inl (a1))), (3, .inr (.inl (a3))), (5, .inr (.inl (a5))), (7, .inl (a7)), (9, .inl (s0)), (10, .inl (a10 + (1 : Int32)))]) ok 6 dX8_visit_137 rfl (rfl) (by decide) rfl ?_
  refine tj_goto (tgt := 72) ok dX8_visit_140 (by decide) ?_
  exact J.2 X g K ok nmx lev hK en
def b_X8_visit_130 (rc : Nat → Int64 → Int64 → Int64 → Int32 → AH → Option (AH)) (r72 : Nat → Int64 → Int64 → Int64 → Int32 → Int32 → Int32 → AH → Option (AH)) (a0 : Nat) (a1 : Int64) (a3 : Int64) (a5 : Int64) (a7 : Int32) (a10 : Int32) (h : AH) : Option (AH) :=
  b_X8_visit_135 rc r72 a0 a1 a3 a5 a7 a10 (1 : Int32) h
set_option maxHeartbeats 4000000 in
set_option maxRecDepth 100000 in
theorem q_X8_visit_130 {hE : AH} {rc : Nat → Int64 → Int64 → Int64 → Int32 → AH → Option (AH)} {kd : Nat} (hrc : ∀ {c0 : Nat} {c1 : Int64} {c2 : Int64} {c3 : Int64} {c4 : Int32} {h h1 : AH} , rc c0 c1 c2 c3 c4 h = some h1 → ∀ g : GT, CM g (kd) yX8_visit cX8_visit 13 none h [.inr (.inr (c0)), .inr (.inl (c1)), .inr (.inl (c2)), .inr (.inl (c3)), .inl (c4)] h1 none) {r72 : Nat → Int64 → Int64 → Int64 → Int32 → Int32 → Int32 → AH → Option (AH)} (hr72 : ∀ (b0 : Nat) (b1 : Int64) (b3 : Int64) (b5 : Int64) (b7 : Int32) (b9 : Int32) (b10 : Int32) (h : AH), r72 b0 b1 b3 b5 b7 b9 b10 h = some hE → JD cX8_visit 13 RX8 "visit" none (kd + 6) 72 [(0, .inr (.inr (b0))), (1, .inr (.inl (b1))), (3, .inr (.inl (b3))), (5, .inr (.inl (b5))), (7, .inl (b7)), (9, .inl (b9)), (10, .inl (b10))] [] h hE none) {a0 : Nat} {a1 : Int64} {a3 : Int64} {a5 : Int64} {a7 : Int32} {a10 : Int32} {h : AH} (hf : b_X8_visit_130 rc r72 a0 a1 a3 a5 a7 a10 h = some hE) : JD cX8_visit 13 RX8 "visit" none (kd + 6) 130 [(0, .inr (.inr (a0))), (1, .inr (.inl (a1))), (3, .inr (.inl (a3))), (5, .inr (.inl (a5))), (7, .inl (a7)), (10, .inl (a10))] [] h hE none := by
  unfold b_X8_visit_130 at hf
  have J := q_X8_visit_135 hrc hr72 hf
  have mE := J.1
  refine ⟨by omega, fun X g K ok nmx lev hK en => ?_⟩
  refine tj_iconst (v := 1) ok dX8_visit_130 (by decide) ?_
  refine tj_goto (tgt := 135) ok dX8_visit_131 (by decide) ?_
  exact J.2 X g K ok nmx lev hK en
def b_X8_visit_134 (rc : Nat → Int64 → Int64 → Int64 → Int32 → AH → Option (AH)) (r72 : Nat → Int64 → Int64 → Int64 → Int32 → Int32 → Int32 → AH → Option (AH)) (a0 : Nat) (a1 : Int64) (a3 : Int64) (a5 : Int64) (a7 : Int32) (a10 : Int32) (h : AH) : Option (AH) :=
  b_X8_visit_135 rc r72 a0 a1 a3 a5 a7 a10 (0 : Int32) h
set_option maxHeartbeats 4000000 in
set_option maxRecDepth 100000 in
theorem q_X8_visit_134 {hE : AH} {rc : Nat → Int64 → Int64 → Int64 → Int32 → AH → Option (AH)} {kd : Nat} (hrc : ∀ {c0 : Nat} {c1 : Int64} {c2 : Int64} {c3 : Int64} {c4 : Int32} {h h1 : AH} , rc c0 c1 c2 c3 c4 h = some h1 → ∀ g : GT, CM g (kd) yX8_visit cX8_visit 13 none h [.inr (.inr (c0)), .inr (.inl (c1)), .inr (.inl (c2)), .inr (.inl (c3)), .inl (c4)] h1 none) {r72 : Nat → Int64 → Int64 → Int64 → Int32 → Int32 → Int32 → AH → Option (AH)} (hr72 : ∀ (b0 : Nat) (b1 : Int64) (b3 : Int64) (b5 : Int64) (b7 : Int32) (b9 : Int32) (b10 : Int32) (h : AH), r72 b0 b1 b3 b5 b7 b9 b10 h = some hE → JD cX8_visit 13 RX8 "visit" none (kd + 6) 72 [(0, .inr (.inr (b0))), (1, .inr (.inl (b1))), (3, .inr (.inl (b3))), (5, .inr (.inl (b5))), (7, .inl (b7)), (9, .inl (b9)), (10, .inl (b10))] [] h hE none) {a0 : Nat} {a1 : Int64} {a3 : Int64} {a5 : Int64} {a7 : Int32} {a10 : Int32} {h : AH} (hf : b_X8_visit_134 rc r72 a0 a1 a3 a5 a7 a10 h = some hE) : JD cX8_visit 13 RX8 "visit" none (kd + 6) 134 [(0, .inr (.inr (a0))), (1, .inr (.inl (a1))), (3, .inr (.inl (a3))), (5, .inr (.inl (a5))), (7, .inl (a7)), (10, .inl (a10))] [] h hE none := by
  unfold b_X8_visit_134 at hf
  have J := q_X8_visit_135 hrc hr72 hf
  have mE := J.1
  refine ⟨by omega, fun X g K ok nmx lev hK en => ?_⟩
  refine tj_iconst (v := 0) ok dX8_visit_134 (by decide) ?_
  exact J.2 X g K ok nmx lev hK en
def b_X8_visit_125 (rc : Nat → Int64 → Int64 → Int64 → Int32 → AH → Option (AH)) (r72 : Nat → Int64 → Int64 → Int64 → Int32 → Int32 → Int32 → AH → Option (AH)) (a0 : Nat) (a1 : Int64) (a3 : Int64) (a5 : Int64) (a7 : Int32) (a10 : Int32) (a12 : Int32) (h : AH) : Option (AH) :=
  if a12 = 0 then b_X8_visit_134 rc r72 a0 a1 a3 a5 a7 a10 h else b_X8_visit_130 rc r72 a0 a1 a3 a5 a7 a10 h
set_option maxHeartbeats 4000000 in
set_option maxRecDepth 100000 in
theorem q_X8_visit_125 {hE : AH} {rc : Nat → Int64 → Int64 → Int64 → Int32 → AH → Option (AH)} {kd : Nat} (hrc : ∀ {c0 : Nat} {c1 : Int64} {c2 : Int64} {c3 : Int64} {c4 : Int32} {h h1 : AH} , rc c0 c1 c2 c3 c4 h = some h1 → ∀ g : GT, CM g (kd) yX8_visit cX8_visit 13 none h [.inr (.inr (c0)), .inr (.inl (c1)), .inr (.inl (c2)), .inr (.inl (c3)), .inl (c4)] h1 none) {r72 : Nat → Int64 → Int64 → Int64 → Int32 → Int32 → Int32 → AH → Option (AH)} (hr72 : ∀ (b0 : Nat) (b1 : Int64) (b3 : Int64) (b5 : Int64) (b7 : Int32) (b9 : Int32) (b10 : Int32) (h : AH), r72 b0 b1 b3 b5 b7 b9 b10 h = some hE → JD cX8_visit 13 RX8 "visit" none (kd + 6) 72 [(0, .inr (.inr (b0))), (1, .inr (.inl (b1))), (3, .inr (.inl (b3))), (5, .inr (.inl (b5))), (7, .inl (b7)), (9, .inl (b9)), (10, .inl (b10))] [] h hE none) {a0 : Nat} {a1 : Int64} {a3 : Int64} {a5 : Int64} {a7 : Int32} {a10 : Int32} {a12 : Int32} {h : AH} (hf : b_X8_visit_125 rc r72 a0 a1 a3 a5 a7 a10 a12 h = some hE) : JD cX8_visit 13 RX8 "visit" none (kd + 6) 125 [(0, .inr (.inr (a0))), (1, .inr (.inl (a1))), (3, .inr (.inl (a3))), (5, .inr (.inl (a5))), (7, .inl (a7)), (10, .inl (a10)), (12, .inl (a12))] [] h hE none := by
  unfold b_X8_visit_125 at hf
  have mE : hp_n h ≤ hp_n hE ∧ hp_s h ≤ hp_s hE := by
    by_cases hc : a12 = 0
    · rw [if_pos hc] at hf; exact (q_X8_visit_134 hrc hr72 hf).1
    · rw [if_neg hc] at hf; exact (q_X8_visit_130 hrc hr72 hf).1
  refine ⟨by omega, fun X g K ok nmx lev hK en => ?_⟩
  refine tj_iload ok 6 dX8_visit_125 rfl ?_
  refine tj_if_eq (tgt := 134) ok dX8_visit_127 (by decide) (fun hc => ?_) (fun hc => ?_)
  · rw [if_pos hc] at hf
    refine tj_sub (lv' := [(0, .inr (.inr (a0))), (1, .inr (.inl (a1))), (3, .inr (.inl (a3))), (5, .inr (.inl (a5))), (7, .inl (a7)), (10, .inl (a10))]) [0, 1, 2, 3, 4, 5] rfl ?_
    exact (q_X8_visit_134 hrc hr72 hf).2 X g K ok nmx lev hK en
  · rw [if_neg hc] at hf
    refine tj_sub (lv' := [(0, .inr (.inr (a0))), (1, .inr (.inl (a1))), (3, .inr (.inl (a3))), (5, .inr (.inl (a5))), (7, .inl (a7)), (10, .inl (a10))]) [0, 1, 2, 3, 4, 5] rfl ?_
    exact (q_X8_visit_130 hrc hr72 hf).2 X g K ok nmx lev hK en
def b_X8_visit_120 (rc : Nat → Int64 → Int64 → Int64 → Int32 → AH → Option (AH)) (r72 : Nat → Int64 → Int64 → Int64 → Int32 → Int32 → Int32 → AH → Option (AH)) (a0 : Nat) (a1 : Int64) (a3 : Int64) (a5 : Int64) (a7 : Int32) (a10 : Int32) (a11 : Int32) (a12 : Int32) (h : AH) : Option (AH) :=
  if a11 = 0 then b_X8_visit_125 rc r72 a0 a1 a3 a5 a7 a10 a12 h else b_X8_visit_130 rc r72 a0 a1 a3 a5 a7 a10 h
set_option maxHeartbeats 4000000 in
set_option maxRecDepth 100000 in
theorem q_X8_visit_120 {hE : AH} {rc : Nat → Int64 → Int64 → Int64 → Int32 → AH → Option (AH)} {kd : Nat} (hrc : ∀ {c0 : Nat} {c1 : Int64} {c2 : Int64} {c3 : Int64} {c4 : Int32} {h h1 : AH} , rc c0 c1 c2 c3 c4 h = some h1 → ∀ g : GT, CM g (kd) yX8_visit cX8_visit 13 none h [.inr (.inr (c0)), .inr (.inl (c1)), .inr (.inl (c2)), .inr (.inl (c3)), .inl (c4)] h1 none) {r72 : Nat → Int64 → Int64 → Int64 → Int32 → Int32 → Int32 → AH → Option (AH)} (hr72 : ∀ (b0 : Nat) (b1 : Int64) (b3 : Int64) (b5 : Int64) (b7 : Int32) (b9 : Int32) (b10 : Int32) (h : AH), r72 b0 b1 b3 b5 b7 b9 b10 h = some hE → JD cX8_visit 13 RX8 "visit" none (kd + 6) 72 [(0, .inr (.inr (b0))), (1, .inr (.inl (b1))), (3, .inr (.inl (b3))), (5, .inr (.inl (b5))), (7, .inl (b7)), (9, .inl (b9)), (10, .inl (b10))] [] h hE none) {a0 : Nat} {a1 : Int64} {a3 : Int64} {a5 : Int64} {a7 : Int32} {a10 : Int32} {a11 : Int32} {a12 : Int32} {h : AH} (hf : b_X8_visit_120 rc r72 a0 a1 a3 a5 a7 a10 a11 a12 h = some hE) : JD cX8_visit 13 RX8 "visit" none (kd + 6) 120 [(0, .inr (.inr (a0))), (1, .inr (.inl (a1))), (3, .inr (.inl (a3))), (5, .inr (.inl (a5))), (7, .inl (a7)), (10, .inl (a10)), (11, .inl (a11)), (12, .inl (a12))] [] h hE none := by
  unfold b_X8_visit_120 at hf
  have mE : hp_n h ≤ hp_n hE ∧ hp_s h ≤ hp_s hE := by
    by_cases hc : a11 = 0
    · rw [if_pos hc] at hf; exact (q_X8_visit_125 hrc hr72 hf).1
    · rw [if_neg hc] at hf; exact (q_X8_visit_130 hrc hr72 hf).1
  refine ⟨by omega, fun X g K ok nmx lev hK en => ?_⟩
  refine tj_iload ok 6 dX8_visit_120 rfl ?_
  refine tj_if_ne (tgt := 130) ok dX8_visit_122 (by decide) (fun hc => ?_) (fun hc => ?_)
  · rw [if_neg hc] at hf
    refine tj_sub (lv' := [(0, .inr (.inr (a0))), (1, .inr (.inl (a1))), (3, .inr (.inl (a3))), (5, .inr (.inl (a5))), (7, .inl (a7)), (10, .inl (a10))]) [0, 1, 2, 3, 4, 5] rfl ?_
    exact (q_X8_visit_130 hrc hr72 hf).2 X g K ok nmx lev hK en
  · rw [if_pos hc] at hf
    refine tj_sub (lv' := [(0, .inr (.inr (a0))), (1, .inr (.inl (a1))), (3, .inr (.inl (a3))), (5, .inr (.inl (a5))), (7, .inl (a7)), (10, .inl (a10)), (12, .inl (a12))]) [0, 1, 2, 3, 4, 5, 7] rfl ?_
    exact (q_X8_visit_125 hrc hr72 hf).2 X g K ok nmx lev hK en
def b_X8_visit_87 (rc : Nat → Int64 → Int64 → Int64 → Int32 → AH → Option (AH)) (r72 : Nat → Int64 → Int64 → Int64 → Int32 → Int32 → Int32 → AH → Option (AH)) (a0 : Nat) (a1 : Int64) (a3 : Int64) (a5 : Int64) (a7 : Int32) (a9 : Int32) (a10 : Int32) (h : AH) : Option (AH) :=
  (ok_v h a0 8).bind fun x1 => (f_X8_doEmptying rc a0 a1 a3 a5 a10 a7 h).bind fun q2 => (ok_v q2.2 a0 8).bind fun x3 => (f_X8_doActions rc a0 a1 a3 a5 a10 a7 q2.2).bind fun q4 => if a9 = 0 then b_X8_visit_120 rc r72 a0 a1 a3 a5 a7 a10 q2.1 q4.1 q4.2 else b_X8_visit_130 rc r72 a0 a1 a3 a5 a7 a10 q4.2
set_option maxHeartbeats 4000000 in
set_option maxRecDepth 100000 in
theorem q_X8_visit_87 {hE : AH} {rc : Nat → Int64 → Int64 → Int64 → Int32 → AH → Option (AH)} {kd : Nat} (hrc : ∀ {c0 : Nat} {c1 : Int64} {c2 : Int64} {c3 : Int64} {c4 : Int32} {h h1 : AH} , rc c0 c1 c2 c3 c4 h = some h1 → ∀ g : GT, CM g (kd) yX8_visit cX8_visit 13 none h [.inr (.inr (c0)), .inr (.inl (c1)), .inr (.inl (c2)), .inr (.inl (c3)), .inl (c4)] h1 none) {r72 : Nat → Int64 → Int64 → Int64 → Int32 → Int32 → Int32 → AH → Option (AH)} (hr72 : ∀ (b0 : Nat) (b1 : Int64) (b3 : Int64) (b5 : Int64) (b7 : Int32) (b9 : Int32) (b10 : Int32) (h : AH), r72 b0 b1 b3 b5 b7 b9 b10 h = some hE → JD cX8_visit 13 RX8 "visit" none (kd + 6) 72 [(0, .inr (.inr (b0))), (1, .inr (.inl (b1))), (3, .inr (.inl (b3))), (5, .inr (.inl (b5))), (7, .inl (b7)), (9, .inl (b9)), (10, .inl (b10))] [] h hE none) {a0 : Nat} {a1 : Int64} {a3 : Int64} {a5 : Int64} {a7 : Int32} {a9 : Int32} {a10 : Int32} {h : AH} (hf : b_X8_visit_87 rc r72 a0 a1 a3 a5 a7 a9 a10 h = some hE) : JD cX8_visit 13 RX8 "visit" none (kd + 6) 87 [(0, .inr (.inr (a0))), (1, .inr (.inl (a1))), (3, .inr (.inl (a3))), (5, .inr (.inl (a5))), (7, .inl (a7)), (9, .inl (a9)), (10, .inl (a10))] [] h hE none := by
  unfold b_X8_visit_87 at hf
  obtain ⟨x1, e1, hf⟩ := bnd hf
  obtain ⟨⟨x2, h2⟩, e2, hf⟩ := bnd hf
  try dsimp only at hf
  have k2 := c_X8_doEmptying (rc := rc) hrc e2
  have m2 := (k2 default_g).1
  obtain ⟨x3, e3, hf⟩ := bnd hf
  obtain ⟨⟨x4, h4⟩, e4, hf⟩ := bnd hf
  try dsimp only at hf
  have k4 := c_X8_doActions (rc := rc) hrc e4
  have m4 := (k4 default_g).1
  have mE : hp_n h4 ≤ hp_n hE ∧ hp_s h4 ≤ hp_s hE := by
    by_cases hc : a9 = 0
    · rw [if_pos hc] at hf; exact (q_X8_visit_120 hrc hr72 hf).1
    · rw [if_neg hc] at hf; exact (q_X8_visit_130 hrc hr72 hf).1
  refine ⟨by omega, fun X g K ok nmx lev hK en => ?_⟩
  refine tj_aload_n ok 0 dX8_visit_87 rfl rfl ?_
  refine tj_lload_n ok 1 dX8_visit_88 rfl rfl ?_
  refine tj_lload_n ok 2 dX8_visit_89 rfl rfl ?_
  refine tj_lload ok 3 dX8_visit_90 rfl ?_
  refine tj_iload ok 6 dX8_visit_92 rfl ?_
  refine tj_iload ok 4 dX8_visit_94 rfl ?_
  refine tj_callV (rest := ([] : List TV).map (vl g)) (as := [.inr (.inl (a1)), .inr (.inl (a3)), .inr (.inl (a5)), .inl (a10), .inl (a7)]) ok lev (by omega) fcX8.1 (by decide) rfl (of_if e1).1 (k2 g) (CaX.of en (by omega)) kn_X8_doEmptying wm_450 wm_451 wm_452 (rs_ok (Nat.le_of_ble_eq_true rfl)) rfl rfl dX8_visit_96 ?_
  refine tj_istore (lv' := [(0, .inr (.inr (a0))), (1, .inr (.inl (a1))), (3, .inr (.inl (a3))), (5, .inr (.inl (a5))), (7, .inl (a7)), (9, .inl (a9)), (10, .inl (a10)), (11, .inl (x2))]) ok dX8_visit_99 (by decide) rfl ?_
  refine tj_aload_n ok 0 dX8_visit_101 rfl rfl ?_
  refine tj_lload_n ok 1 dX8_visit_102 rfl rfl ?_
  refine tj_lload_n ok 2 dX8_visit_103 rfl rfl ?_
  refine tj_lload ok 3 dX8_visit_104 rfl ?_
  refine tj_iload ok 6 dX8_visit_106 rfl ?_
  refine tj_iload ok 4 dX8_visit_108 rfl ?_
  refine tj_callV (rest := ([] : List TV).map (vl g)) (as := [.inr (.inl (a1)), .inr (.inl (a3)), .inr (.inl (a5)), .inl (a10), .inl (a7)]) ok lev (by omega) fcX8.1 (by decide) rfl (of_if e3).1 (k4 g) (CaX.of en (by omega)) kn_X8_doActions wm_453 wm_454 wm_455 (rs_ok (Nat.le_of_ble_eq_true rfl)) rfl rfl dX8_visit_110 ?_
  refine tj_istore (lv' := [(0, .inr (.inr (a0))), (1, .inr (.inl (a1))), (3, .inr (.inl (a3))), (5, .inr (.inl (a5))), (7, .inl (a7)), (9, .inl (a9)), (10, .inl (a10)), (11, .inl (x2)), (12, .inl (x4))]) ok dX8_visit_113 (by decide) rfl ?_
  refine tj_iload ok 5 dX8_visit_115 rfl ?_
  refine tj_if_ne (tgt := 130) ok dX8_visit_117 (by decide) (fun hc => ?_) (fun hc => ?_)
  · rw [if_neg hc] at hf
    refine tj_sub (lv' := [(0, .inr (.inr (a0))), (1, .inr (.inl (a1))), (3, .inr (.inl (a3))), (5, .inr (.inl (a5))), (7, .inl (a7)), (10, .inl (a10))]) [0, 1, 2, 3, 4, 6] rfl ?_
    exact (q_X8_visit_130 hrc hr72 hf).2 X g K ok nmx lev hK en
  · rw [if_pos hc] at hf
    refine tj_sub (lv' := [(0, .inr (.inr (a0))), (1, .inr (.inl (a1))), (3, .inr (.inl (a3))), (5, .inr (.inl (a5))), (7, .inl (a7)), (10, .inl (a10)), (11, .inl (x2)), (12, .inl (x4))]) [0, 1, 2, 3, 4, 6, 7, 8] rfl ?_
    exact (q_X8_visit_120 hrc hr72 hf).2 X g K ok nmx lev hK en
def b_X8_visit_72 (rc : Nat → Int64 → Int64 → Int64 → Int32 → AH → Option (AH)) (r72 : Nat → Int64 → Int64 → Int64 → Int32 → Int32 → Int32 → AH → Option (AH)) (a0 : Nat) (a1 : Int64) (a3 : Int64) (a5 : Int64) (a7 : Int32) (a9 : Int32) (a10 : Int32) (h : AH) : Option (AH) :=
  (g_r h a0 8 7).bind fun x1 => (g_r h x1 5 0).bind fun x2 => (g_i h x2 0 11).bind fun x3 => if x3 ≤ a10 then b_X8_visit_143 rc a0 a1 a3 a5 a7 a9 h else b_X8_visit_87 rc r72 a0 a1 a3 a5 a7 a9 a10 h
set_option maxHeartbeats 4000000 in
set_option maxRecDepth 100000 in
theorem q_X8_visit_72 {hE : AH} {rc : Nat → Int64 → Int64 → Int64 → Int32 → AH → Option (AH)} {kd : Nat} (hrc : ∀ {c0 : Nat} {c1 : Int64} {c2 : Int64} {c3 : Int64} {c4 : Int32} {h h1 : AH} , rc c0 c1 c2 c3 c4 h = some h1 → ∀ g : GT, CM g (kd) yX8_visit cX8_visit 13 none h [.inr (.inr (c0)), .inr (.inl (c1)), .inr (.inl (c2)), .inr (.inl (c3)), .inl (c4)] h1 none) {r72 : Nat → Int64 → Int64 → Int64 → Int32 → Int32 → Int32 → AH → Option (AH)} (hr72 : ∀ (b0 : Nat) (b1 : Int64) (b3 : Int64) (b5 : Int64) (b7 : Int32) (b9 : Int32) (b10 : Int32) (h : AH), r72 b0 b1 b3 b5 b7 b9 b10 h = some hE → JD cX8_visit 13 RX8 "visit" none (kd + 6) 72 [(0, .inr (.inr (b0))), (1, .inr (.inl (b1))), (3, .inr (.inl (b3))), (5, .inr (.inl (b5))), (7, .inl (b7)), (9, .inl (b9)), (10, .inl (b10))] [] h hE none) {a0 : Nat} {a1 : Int64} {a3 : Int64} {a5 : Int64} {a7 : Int32} {a9 : Int32} {a10 : Int32} {h : AH} (hf : b_X8_visit_72 rc r72 a0 a1 a3 a5 a7 a9 a10 h = some hE) : JD cX8_visit 13 RX8 "visit" none (kd + 6) 72 [(0, .inr (.inr (a0))), (1, .inr (.inl (a1))), (3, .inr (.inl (a3))), (5, .inr (.inl (a5))), (7, .inl (a7)), (9, .inl (a9)), (10, .inl (a10))] [] h hE none := by
  unfold b_X8_visit_72 at hf
  obtain ⟨x1, e1, hf⟩ := bnd hf
  obtain ⟨x2, e2, hf⟩ := bnd hf
  obtain ⟨x3, e3, hf⟩ := bnd hf
  have mE : hp_n h ≤ hp_n hE ∧ hp_s h ≤ hp_s hE := by
    by_cases hc : x3 ≤ a10
    · rw [if_pos hc] at hf; exact (q_X8_visit_143 hrc hf).1
    · rw [if_neg hc] at hf; exact (q_X8_visit_87 hrc hr72 hf).1
  refine ⟨by omega, fun X g K ok nmx lev hK en => ?_⟩
  refine tj_iload ok 6 dX8_visit_72 rfl ?_
  refine tj_aload_n ok 0 dX8_visit_74 rfl rfl ?_
  refine tj_getR (k := 7) ok fcX8 (by decide) wm_190 rfl (Or.inl ⟨_, rfl⟩) dX8_visit_75 e1 ?_
  refine tj_getR (k := 0) ok fcX5 (by decide) wm_279 rfl (Or.inl ⟨_, rfl⟩) dX8_visit_78 e2 ?_
  refine tj_getI (k := 11) ok fcX0 (by decide) wm_428 rfl (Or.inl rfl) dX8_visit_81 e3 ?_
  refine tj_icmp_ge (tgt := 143) ok dX8_visit_84 (by decide) (fun hc => ?_) (fun hc => ?_)
  · rw [if_pos hc] at hf
    refine tj_sub (lv' := [(0, .inr (.inr (a0))), (1, .inr (.inl (a1))), (3, .inr (.inl (a3))), (5, .inr (.inl (a5))), (7, .inl (a7)), (9, .inl (a9))]) [0, 1, 2, 3, 4, 5] rfl ?_
    exact (q_X8_visit_143 hrc hf).2 X g K ok nmx lev hK en
  · rw [if_neg hc] at hf
    exact (q_X8_visit_87 hrc hr72 hf).2 X g K ok nmx lev hK en
def l_X8_visit_72 (rc : Nat → Int64 → Int64 → Int64 → Int32 → AH → Option (AH)) : Nat → Nat → Int64 → Int64 → Int64 → Int32 → Int32 → Int32 → AH → Option (AH)
  | 0 => fun _ _ _ _ _ _ _ _ => none
  | n + 1 => fun a0 a1 a3 a5 a7 a9 a10 h => b_X8_visit_72 rc (l_X8_visit_72 rc n) a0 a1 a3 a5 a7 a9 a10 h
theorem ql_X8_visit_72 {rc : Nat → Int64 → Int64 → Int64 → Int32 → AH → Option (AH)} {kd : Nat} (hrc : ∀ {c0 : Nat} {c1 : Int64} {c2 : Int64} {c3 : Int64} {c4 : Int32} {h h1 : AH} , rc c0 c1 c2 c3 c4 h = some h1 → ∀ g : GT, CM g (kd) yX8_visit cX8_visit 13 none h [.inr (.inr (c0)), .inr (.inl (c1)), .inr (.inl (c2)), .inr (.inl (c3)), .inl (c4)] h1 none) {n : Nat} {a0 : Nat} {a1 : Int64} {a3 : Int64} {a5 : Int64} {a7 : Int32} {a9 : Int32} {a10 : Int32} {h hE : AH} (hf : l_X8_visit_72 rc n a0 a1 a3 a5 a7 a9 a10 h = some hE) : JD cX8_visit 13 RX8 "visit" none (kd + 6) 72 [(0, .inr (.inr (a0))), (1, .inr (.inl (a1))), (3, .inr (.inl (a3))), (5, .inr (.inl (a5))), (7, .inl (a7)), (9, .inl (a9)), (10, .inl (a10))] [] h hE none := by
  induction n generalizing a0 a1 a3 a5 a7 a9 a10 h with
  | zero => cases hf
  | succ n ih => exact q_X8_visit_72 hrc (fun _ _ _ _ _ _ _ _ hf => ih hf) hf
def b_X8_visit_66 (rc : Nat → Int64 → Int64 → Int64 → Int32 → AH → Option (AH)) (a0 : Nat) (a1 : Int64) (a3 : Int64) (a5 : Int64) (a7 : Int32) (h : AH) : Option (AH) :=
  l_X8_visit_72 rc fu_ a0 a1 a3 a5 a7 (0 : Int32) (0 : Int32) h
set_option maxHeartbeats 4000000 in
set_option maxRecDepth 100000 in
theorem q_X8_visit_66 {rc : Nat → Int64 → Int64 → Int64 → Int32 → AH → Option (AH)} {kd : Nat} (hrc : ∀ {c0 : Nat} {c1 : Int64} {c2 : Int64} {c3 : Int64} {c4 : Int32} {h h1 : AH} , rc c0 c1 c2 c3 c4 h = some h1 → ∀ g : GT, CM g (kd) yX8_visit cX8_visit 13 none h [.inr (.inr (c0)), .inr (.inl (c1)), .inr (.inl (c2)), .inr (.inl (c3)), .inl (c4)] h1 none) {a0 : Nat} {a1 : Int64} {a3 : Int64} {a5 : Int64} {a7 : Int32} {h hE : AH} (hf : b_X8_visit_66 rc a0 a1 a3 a5 a7 h = some hE) : JD cX8_visit 13 RX8 "visit" none (kd + 6) 66 [(0, .inr (.inr (a0))), (1, .inr (.inl (a1))), (3, .inr (.inl (a3))), (5, .inr (.inl (a5))), (7, .inl (a7))] [] h hE none := by
  unfold b_X8_visit_66 at hf
  have J := ql_X8_visit_72 hrc hf
  have mE := J.1
  refine ⟨by omega, fun X g K ok nmx lev hK en => ?_⟩
  refine tj_iconst (v := 0) ok dX8_visit_66 (by decide) ?_
  refine tj_istore (lv' := [(0, .inr (.inr (a0))), (1, .inr (.inl (a1))), (3, .inr (.inl (a3))), (5, .inr (.inl (a5))), (7, .inl (a7)), (9, .inl ((0 : Int32)))]) ok dX8_visit_67 (by decide) rfl ?_
  refine tj_iconst (v := 0) ok dX8_visit_69 (by decide) ?_
  refine tj_istore (lv' := [(0, .inr (.inr (a0))), (1, .inr (.inl (a1))), (3, .inr (.inl (a3))), (5, .inr (.inl (a5))), (7, .inl (a7)), (9, .inl ((0 : Int32))), (10, .inl ((0 : Int32)))]) ok dX8_visit_70 (by decide) rfl ?_
  exact J.2 X g K ok nmx lev hK en
def b_X8_visit_52 (rc : Nat → Int64 → Int64 → Int64 → Int32 → AH → Option (AH)) (a0 : Nat) (a1 : Int64) (a3 : Int64) (a5 : Int64) (a7 : Int32) (a8 : Int32) (h : AH) : Option (AH) :=
  (ok_v h a0 8).bind fun x1 => (f_X8_doActions rc a0 a1 a3 a5 a8 a7 h).bind fun q2 => some q2.2
set_option maxHeartbeats 4000000 in
set_option maxRecDepth 100000 in
theorem q_X8_visit_52 {rc : Nat → Int64 → Int64 → Int64 → Int32 → AH → Option (AH)} {kd : Nat} (hrc : ∀ {c0 : Nat} {c1 : Int64} {c2 : Int64} {c3 : Int64} {c4 : Int32} {h h1 : AH} , rc c0 c1 c2 c3 c4 h = some h1 → ∀ g : GT, CM g (kd) yX8_visit cX8_visit 13 none h [.inr (.inr (c0)), .inr (.inl (c1)), .inr (.inl (c2)), .inr (.inl (c3)), .inl (c4)] h1 none) {a0 : Nat} {a1 : Int64} {a3 : Int64} {a5 : Int64} {a7 : Int32} {a8 : Int32} {h hE : AH} (hf : b_X8_visit_52 rc a0 a1 a3 a5 a7 a8 h = some hE) : JD cX8_visit 13 RX8 "visit" none (kd + 6) 52 [(0, .inr (.inr (a0))), (1, .inr (.inl (a1))), (3, .inr (.inl (a3))), (5, .inr (.inl (a5))), (7, .inl (a7)), (8, .inl (a8))] [] h hE none := by
  unfold b_X8_visit_52 at hf
  obtain ⟨x1, e1, hf⟩ := bnd hf
  obtain ⟨⟨x2, h2⟩, e2, hf⟩ := bnd hf
  try dsimp only at hf
  have k2 := c_X8_doActions (rc := rc) hrc e2
  have m2 := (k2 default_g).1
  have hh := Option.some.inj hf
  subst hh
  have mE : hp_n h2 ≤ hp_n h2 ∧ hp_s h2 ≤ hp_s h2 := ⟨Nat.le_refl _, Nat.le_refl _⟩
  refine ⟨by omega, fun X g K ok nmx lev hK en => ?_⟩
  refine tj_aload_n ok 0 dX8_visit_52 rfl rfl ?_
  refine tj_lload_n ok 1 dX8_visit_53 rfl rfl ?_
  refine tj_lload_n ok 2 dX8_visit_54 rfl rfl ?_
  refine tj_lload ok 3 dX8_visit_55 rfl ?_
  refine tj_iload ok 5 dX8_visit_57 rfl ?_
  refine tj_iload ok 4 dX8_visit_59 rfl ?_
  refine tj_callV (rest := ([] : List TV).map (vl g)) (as := [.inr (.inl (a1)), .inr (.inl (a3)), .inr (.inl (a5)), .inl (a8), .inl (a7)]) ok lev (by omega) fcX8.1 (by decide) rfl (of_if e1).1 (k2 g) (CaX.of en (by omega)) kn_X8_doActions wm_453 wm_454 wm_455 (rs_ok (Nat.le_of_ble_eq_true rfl)) rfl rfl dX8_visit_61 ?_
  refine tj_popi ok dX8_visit_64 ?_
  exact tj_return ok en dX8_visit_65
def b_X8_visit_29 (rc : Nat → Int64 → Int64 → Int64 → Int32 → AH → Option (AH)) (a0 : Nat) (a1 : Int64) (a3 : Int64) (a5 : Int64) (a7 : Int32) (h : AH) : Option (AH) :=
  (g_r h a0 8 0).bind fun x1 => (ok_v h x1 2).bind fun x2 => (f_X2_set x1 a1 a3 a5 h).bind fun h3 => (ok_v h3 a0 8).bind fun x4 => (f_X8_hurryingThread a0 h3).bind fun q5 => if q5.1 = (-1 : Int32) then b_X8_visit_66 rc a0 a1 a3 a5 a7 q5.2 else b_X8_visit_52 rc a0 a1 a3 a5 a7 q5.1 q5.2
set_option maxHeartbeats 4000000 in
set_option maxRecDepth 100000 in
theorem q_X8_visit_29 {rc : Nat → Int64 → Int64 → Int64 → Int32 → AH → Option (AH)} {kd : Nat} (hrc : ∀ {c0 : Nat} {c1 : Int64} {c2 : Int64} {c3 : Int64} {c4 : Int32} {h h1 : AH} , rc c0 c1 c2 c3 c4 h = some h1 → ∀ g : GT, CM g (kd) yX8_visit cX8_visit 13 none h [.inr (.inr (c0)), .inr (.inl (c1)), .inr (.inl (c2)), .inr (.inl (c3)), .inl (c4)] h1 none) {a0 : Nat} {a1 : Int64} {a3 : Int64} {a5 : Int64} {a7 : Int32} {h hE : AH} (hf : b_X8_visit_29 rc a0 a1 a3 a5 a7 h = some hE) : JD cX8_visit 13 RX8 "visit" none (kd + 6) 29 [(0, .inr (.inr (a0))), (1, .inr (.inl (a1))), (3, .inr (.inl (a3))), (5, .inr (.inl (a5))), (7, .inl (a7))] [] h hE none := by
  unfold b_X8_visit_29 at hf
  obtain ⟨x1, e1, hf⟩ := bnd hf
  obtain ⟨x2, e2, hf⟩ := bnd hf
  obtain ⟨h3, e3, hf⟩ := bnd hf
  have k3 := c_X2_set e3
  have m3 := (k3 default_g).1
  obtain ⟨x4, e4, hf⟩ := bnd hf
  obtain ⟨⟨x5, h5⟩, e5, hf⟩ := bnd hf
  try dsimp only at hf
  have k5 := c_X8_hurryingThread e5
  have m5 := (k5 default_g).1
  have mE : hp_n h5 ≤ hp_n hE ∧ hp_s h5 ≤ hp_s hE := by
    by_cases hc : x5 = (-1 : Int32)
    · rw [if_pos hc] at hf; exact (q_X8_visit_66 hrc hf).1
    · rw [if_neg hc] at hf; exact (q_X8_visit_52 hrc hf).1
  refine ⟨by omega, fun X g K ok nmx lev hK en => ?_⟩
  refine tj_aload_n ok 0 dX8_visit_29 rfl rfl ?_
  refine tj_getR (k := 0) ok fcX8 (by decide) wm_177 rfl (Or.inl ⟨_, rfl⟩) dX8_visit_30 e1 ?_
  refine tj_lload_n ok 1 dX8_visit_33 rfl rfl ?_
  refine tj_lload_n ok 2 dX8_visit_34 rfl rfl ?_
  refine tj_lload ok 3 dX8_visit_35 rfl ?_
  refine tj_callV (rest := ([] : List TV).map (vl g)) (as := [.inr (.inl (a1)), .inr (.inl (a3)), .inr (.inl (a5))]) ok lev (by omega) fcX2.1 (by decide) rfl (of_if e2).1 (k3 g) (CaX.of en (by omega)) kn_X2_set wm_358 wm_266 wm_267 (rs_ok (Nat.le_of_ble_eq_true rfl)) rfl rfl dX8_visit_37 ?_
  refine tj_aload_n ok 0 dX8_visit_40 rfl rfl ?_
  refine tj_callV (rest := ([] : List TV).map (vl g)) (as := []) ok lev (by omega) fcX8.1 (by decide) rfl (of_if e4).1 (k5 g) (CaX.of en (by omega)) kn_X8_hurryingThread wm_456 wm_457 wm_458 (rs_ok (Nat.le_of_ble_eq_true rfl)) rfl rfl dX8_visit_41 ?_
  refine tj_istore (lv' := [(0, .inr (.inr (a0))), (1, .inr (.inl (a1))), (3, .inr (.inl (a3))), (5, .inr (.inl (a5))), (7, .inl (a7)), (8, .inl (x5))]) ok dX8_visit_44 (by decide) rfl ?_
  refine tj_iload ok 5 dX8_visit_46 rfl ?_
  refine tj_iconst (v := -1) ok dX8_visit_48 (by decide) ?_
  refine tj_icmp_eq (tgt := 66) ok dX8_visit_49 (by decide) (fun hc => ?_) (fun hc => ?_)
  · rw [if_pos hc] at hf
    refine tj_sub (lv' := [(0, .inr (.inr (a0))), (1, .inr (.inl (a1))), (3, .inr (.inl (a3))), (5, .inr (.inl (a5))), (7, .inl (a7))]) [0, 1, 2, 3, 4] rfl ?_
    exact (q_X8_visit_66 hrc hf).2 X g K ok nmx lev hK en
  · rw [if_neg hc] at hf
    exact (q_X8_visit_52 hrc hf).2 X g K ok nmx lev hK en
def b_X8_visit_14 (rc : Nat → Int64 → Int64 → Int64 → Int32 → AH → Option (AH)) (a0 : Nat) (a1 : Int64) (a3 : Int64) (a5 : Int64) (a7 : Int32) (h : AH) : Option (AH) :=
  (g_r h a0 8 1).bind fun x1 => (ok_v h x1 9).bind fun x2 => (f_X9_isNew x1 a1 a3 a5 h).bind fun q3 => if q3.1 = 0 then b_X8_visit_28 rc q3.2 else b_X8_visit_29 rc a0 a1 a3 a5 a7 q3.2
set_option maxHeartbeats 4000000 in
set_option maxRecDepth 100000 in
theorem q_X8_visit_14 {rc : Nat → Int64 → Int64 → Int64 → Int32 → AH → Option (AH)} {kd : Nat} (hrc : ∀ {c0 : Nat} {c1 : Int64} {c2 : Int64} {c3 : Int64} {c4 : Int32} {h h1 : AH} , rc c0 c1 c2 c3 c4 h = some h1 → ∀ g : GT, CM g (kd) yX8_visit cX8_visit 13 none h [.inr (.inr (c0)), .inr (.inl (c1)), .inr (.inl (c2)), .inr (.inl (c3)), .inl (c4)] h1 none) {a0 : Nat} {a1 : Int64} {a3 : Int64} {a5 : Int64} {a7 : Int32} {h hE : AH} (hf : b_X8_visit_14 rc a0 a1 a3 a5 a7 h = some hE) : JD cX8_visit 13 RX8 "visit" none (kd + 6) 14 [(0, .inr (.inr (a0))), (1, .inr (.inl (a1))), (3, .inr (.inl (a3))), (5, .inr (.inl (a5))), (7, .inl (a7))] [] h hE none := by
  unfold b_X8_visit_14 at hf
  obtain ⟨x1, e1, hf⟩ := bnd hf
  obtain ⟨x2, e2, hf⟩ := bnd hf
  obtain ⟨⟨x3, h3⟩, e3, hf⟩ := bnd hf
  try dsimp only at hf
  have k3 := c_X9_isNew e3
  have m3 := (k3 default_g).1
  have mE : hp_n h3 ≤ hp_n hE ∧ hp_s h3 ≤ hp_s hE := by
    by_cases hc : x3 = 0
    · rw [if_pos hc] at hf; exact (q_X8_visit_28 hrc hf).1
    · rw [if_neg hc] at hf; exact (q_X8_visit_29 hrc hf).1
  refine ⟨by omega, fun X g K ok nmx lev hK en => ?_⟩
  refine tj_aload_n ok 0 dX8_visit_14 rfl rfl ?_
  refine tj_getR (k := 1) ok fcX8 (by decide) wm_181 rfl (Or.inl ⟨_, rfl⟩) dX8_visit_15 e1 ?_
  refine tj_lload_n ok 1 dX8_visit_18 rfl rfl ?_
  refine tj_lload_n ok 2 dX8_visit_19 rfl rfl ?_
  refine tj_lload ok 3 dX8_visit_20 rfl ?_
  refine tj_callV (rest := ([] : List TV).map (vl g)) (as := [.inr (.inl (a1)), .inr (.inl (a3)), .inr (.inl (a5))]) ok lev (by omega) fcX9.1 (by decide) rfl (of_if e2).1 (k3 g) (CaX.of en (by omega)) kn_X9_isNew wm_459 wm_460 wm_461 (rs_ok (Nat.le_of_ble_eq_true rfl)) rfl rfl dX8_visit_22 ?_
  refine tj_if_ne (tgt := 29) ok dX8_visit_25 (by decide) (fun hc => ?_) (fun hc => ?_)
  · rw [if_neg hc] at hf
    exact (q_X8_visit_29 hrc hf).2 X g K ok nmx lev hK en
  · rw [if_pos hc] at hf
    refine tj_sub (lv' := []) [] rfl ?_
    exact (q_X8_visit_28 hrc hf).2 X g K ok nmx lev hK en
def b_X8_visit_7 (rc : Nat → Int64 → Int64 → Int64 → Int32 → AH → Option (AH)) (a0 : Nat) (a1 : Int64) (a3 : Int64) (a5 : Int64) (a7 : Int32) (h : AH) : Option (AH) :=
  if (16 : Int32) < a7 then b_X8_visit_28 rc h else b_X8_visit_14 rc a0 a1 a3 a5 a7 h
set_option maxHeartbeats 4000000 in
set_option maxRecDepth 100000 in
theorem q_X8_visit_7 {rc : Nat → Int64 → Int64 → Int64 → Int32 → AH → Option (AH)} {kd : Nat} (hrc : ∀ {c0 : Nat} {c1 : Int64} {c2 : Int64} {c3 : Int64} {c4 : Int32} {h h1 : AH} , rc c0 c1 c2 c3 c4 h = some h1 → ∀ g : GT, CM g (kd) yX8_visit cX8_visit 13 none h [.inr (.inr (c0)), .inr (.inl (c1)), .inr (.inl (c2)), .inr (.inl (c3)), .inl (c4)] h1 none) {a0 : Nat} {a1 : Int64} {a3 : Int64} {a5 : Int64} {a7 : Int32} {h hE : AH} (hf : b_X8_visit_7 rc a0 a1 a3 a5 a7 h = some hE) : JD cX8_visit 13 RX8 "visit" none (kd + 6) 7 [(0, .inr (.inr (a0))), (1, .inr (.inl (a1))), (3, .inr (.inl (a3))), (5, .inr (.inl (a5))), (7, .inl (a7))] [] h hE none := by
  unfold b_X8_visit_7 at hf
  have mE : hp_n h ≤ hp_n hE ∧ hp_s h ≤ hp_s hE := by
    by_cases hc : (16 : Int32) < a7
    · rw [if_pos hc] at hf; exact (q_X8_visit_28 hrc hf).1
    · rw [if_neg hc] at hf; exact (q_X8_visit_14 hrc hf).1
  refine ⟨by omega, fun X g K ok nmx lev hK en => ?_⟩
  refine tj_iload ok 4 dX8_visit_7 rfl ?_
  refine tj_bipush (v := 16) ok dX8_visit_9 (by decide) ?_
  refine tj_icmp_gt (tgt := 28) ok dX8_visit_11 (by decide) (fun hc => ?_) (fun hc => ?_)
  · rw [if_pos hc] at hf
    refine tj_sub (lv' := []) [] rfl ?_
    exact (q_X8_visit_28 hrc hf).2 X g K ok nmx lev hK en
  · rw [if_neg hc] at hf
    exact (q_X8_visit_14 hrc hf).2 X g K ok nmx lev hK en
def b_X8_visit_0 (rc : Nat → Int64 → Int64 → Int64 → Int32 → AH → Option (AH)) (a0 : Nat) (a1 : Int64) (a3 : Int64) (a5 : Int64) (a7 : Int32) (h : AH) : Option (AH) :=
  (g_i h a0 8 11).bind fun x1 => if x1 = 0 then b_X8_visit_7 rc a0 a1 a3 a5 a7 h else b_X8_visit_28 rc h
set_option maxHeartbeats 4000000 in
set_option maxRecDepth 100000 in
theorem q_X8_visit_0 {rc : Nat → Int64 → Int64 → Int64 → Int32 → AH → Option (AH)} {kd : Nat} (hrc : ∀ {c0 : Nat} {c1 : Int64} {c2 : Int64} {c3 : Int64} {c4 : Int32} {h h1 : AH} , rc c0 c1 c2 c3 c4 h = some h1 → ∀ g : GT, CM g (kd) yX8_visit cX8_visit 13 none h [.inr (.inr (c0)), .inr (.inl (c1)), .inr (.inl (c2)), .inr (.inl (c3)), .inl (c4)] h1 none) {a0 : Nat} {a1 : Int64} {a3 : Int64} {a5 : Int64} {a7 : Int32} {h hE : AH} (hf : b_X8_visit_0 rc a0 a1 a3 a5 a7 h = some hE) : JD cX8_visit 13 RX8 "visit" none (kd + 6) 0 [(0, .inr (.inr (a0))), (1, .inr (.inl (a1))), (3, .inr (.inl (a3))), (5, .inr (.inl (a5))), (7, .inl (a7))] [] h hE none := by
  unfold b_X8_visit_0 at hf
  obtain ⟨x1, e1, hf⟩ := bnd hf
  have mE : hp_n h ≤ hp_n hE ∧ hp_s h ≤ hp_s hE := by
    by_cases hc : x1 = 0
    · rw [if_pos hc] at hf; exact (q_X8_visit_7 hrc hf).1
    · rw [if_neg hc] at hf; exact (q_X8_visit_28 hrc hf).1
  refine ⟨by omega, fun X g K ok nmx lev hK en => ?_⟩
  refine tj_aload_n ok 0 dX8_visit_0 rfl rfl ?_
  refine tj_getI (k := 11) ok fcX8 (by decide) wm_194 rfl (Or.inr rfl) dX8_visit_1 e1 ?_
  refine tj_if_ne (tgt := 28) ok dX8_visit_4 (by decide) (fun hc => ?_) (fun hc => ?_)
  · rw [if_neg hc] at hf
    refine tj_sub (lv' := []) [] rfl ?_
    exact (q_X8_visit_28 hrc hf).2 X g K ok nmx lev hK en
  · rw [if_pos hc] at hf
    exact (q_X8_visit_7 hrc hf).2 X g K ok nmx lev hK en
def f_X8_visit_o (rc : Nat → Int64 → Int64 → Int64 → Int32 → AH → Option (AH)) (a0 : Nat) (a1 : Int64) (a3 : Int64) (a5 : Int64) (a7 : Int32) (h : AH) : Option (AH) := b_X8_visit_0 rc  a0 a1 a3 a5 a7 h
theorem c_X8_visit_o {rc : Nat → Int64 → Int64 → Int64 → Int32 → AH → Option (AH)} {kd : Nat} (hrc : ∀ {c0 : Nat} {c1 : Int64} {c2 : Int64} {c3 : Int64} {c4 : Int32} {h h1 : AH} , rc c0 c1 c2 c3 c4 h = some h1 → ∀ g : GT, CM g (kd) yX8_visit cX8_visit 13 none h [.inr (.inr (c0)), .inr (.inl (c1)), .inr (.inl (c2)), .inr (.inl (c3)), .inl (c4)] h1 none) {a0 : Nat} {a1 : Int64} {a3 : Int64} {a5 : Int64} {a7 : Int32} {h hE : AH} (hf : f_X8_visit_o rc a0 a1 a3 a5 a7 h = some hE) : ∀ g : GT, CM g (kd + 6) yX8_visit cX8_visit 13 none h [.inr (.inr (a0)), .inr (.inl (a1)), .inr (.inl (a3)), .inr (.inl (a5)), .inl (a7)] hE none :=
  CM.ofJ (by decide) (by show _ ≤ 13; exact Nat.le_of_ble_eq_true rfl) (q_X8_visit_0 hrc hf)
def f_X8_visit : Nat → Nat → Int64 → Int64 → Int64 → Int32 → AH → Option (AH)
  | 0 => fun _ _ _ _ _ _ => none
  | d + 1 => fun a0 a1 a3 a5 a7 h => f_X8_visit_o (f_X8_visit d) a0 a1 a3 a5 a7 h
theorem c_X8_visit (d : Nat) : ∀ {c0 : Nat} {c1 : Int64} {c2 : Int64} {c3 : Int64} {c4 : Int32} {h h1 : AH} , f_X8_visit d c0 c1 c2 c3 c4 h = some h1 → ∀ g : GT, CM g (6 * d) yX8_visit cX8_visit 13 none h [.inr (.inr (c0)), .inr (.inl (c1)), .inr (.inl (c2)), .inr (.inl (c3)), .inl (c4)] h1 none := by
  induction d with
  | zero =>
    intro a0 a1 a3 a5 a7 h hE  hf g
    cases hf
  | succ d ih =>
    intro a0 a1 a3 a5 a7 h hE  hf g
    have z := c_X8_visit_o (rc := f_X8_visit d) ih hf g
    rw [show 6 * (d + 1) = 6 * d + 6 by omega]
    exact z
/-! ===== LitmusHouse$Search.listOutcomes(LLitmusHouse$Program;I)[I ===== -/
def b_X8_listOutcomes_0 (a0 : Nat) (a1 : Nat) (a2 : Int32) (h : AH) : Option (Nat × AH) :=
  (g_r h a0 8 2).bind fun x1 => (ok_v h x1 3).bind fun x2 => (f_X3_clear x1 h).bind fun h3 => (ok_v h3 a1 5).bind fun x4 => (f_X5_cellsOfKind a1 (1 : Int32) h3).bind fun q5 => (ok_v q5.2 a0 8).bind fun x6 => (f_X8_begin a0 a1 a2 q5.1 (0 : Int32) q5.2).bind fun h7 => (g_r h7 a0 8 0).bind fun x8 => (g_j h7 x8 2 0).bind fun x9 => (g_r h7 a0 8 0).bind fun x10 => (g_j h7 x10 2 1).bind fun x11 => (g_r h7 a0 8 0).bind fun x12 => (g_j h7 x12 2 2).bind fun x13 => (ok_v h7 a0 8).bind fun x14 => (f_X8_visit dp_ a0 x9 x11 x13 (0 : Int32) h7).bind fun h15 => (g_r h15 a0 8 2).bind fun x16 => (ok_v h15 x16 3).bind fun x17 => (f_X3_copy x16 h15).bind fun q18 => some (q18.1, q18.2)
set_option maxHeartbeats 4000000 in
set_option maxRecDepth 100000 in
theorem q_X8_listOutcomes_0 {a0 : Nat} {a1 : Nat} {a2 : Int32} {h hE : AH} {v : Nat} (hf : b_X8_listOutcomes_0 a0 a1 a2 h = some (v, hE)) : JD cX8_listOutcomes 3 RX8 "listOutcomes" (some (.array .int)) (145) 0 [(0, .inr (.inr (a0))), (1, .inr (.inr (a1))), (2, .inl (a2))] [] h hE (some (.inr (.inr (v)))) := by
  unfold b_X8_listOutcomes_0 at hf
  obtain ⟨x1, e1, hf⟩ := bnd hf
  obtain ⟨x2, e2, hf⟩ := bnd hf
  obtain ⟨h3, e3, hf⟩ := bnd hf
  have k3 := c_X3_clear e3
  have m3 := (k3 default_g).1
  obtain ⟨x4, e4, hf⟩ := bnd hf
  obtain ⟨⟨x5, h5⟩, e5, hf⟩ := bnd hf
  try dsimp only at hf
  have k5 := c_X5_cellsOfKind e5
  have m5 := (k5 default_g).1
  obtain ⟨x6, e6, hf⟩ := bnd hf
  obtain ⟨h7, e7, hf⟩ := bnd hf
  have k7 := c_X8_begin e7
  have m7 := (k7 default_g).1
  obtain ⟨x8, e8, hf⟩ := bnd hf
  obtain ⟨x9, e9, hf⟩ := bnd hf
  obtain ⟨x10, e10, hf⟩ := bnd hf
  obtain ⟨x11, e11, hf⟩ := bnd hf
  obtain ⟨x12, e12, hf⟩ := bnd hf
  obtain ⟨x13, e13, hf⟩ := bnd hf
  obtain ⟨x14, e14, hf⟩ := bnd hf
  obtain ⟨h15, e15, hf⟩ := bnd hf
  have k15 := c_X8_visit dp_ e15
  have m15 := (k15 default_g).1
  obtain ⟨x16, e16, hf⟩ := bnd hf
  obtain ⟨x17, e17, hf⟩ := bnd hf
  obtain ⟨⟨x18, h18⟩, e18, hf⟩ := bnd hf
  try dsimp only at hf
  have k18 := c_X3_copy e18
  have m18 := (k18 default_g).1
  obtain ⟨hv, hh⟩ := Prod.mk.inj (Option.some.inj hf)
  subst hv
  subst hh
  have mE : hp_n h18 ≤ hp_n h18 ∧ hp_s h18 ≤ hp_s h18 := ⟨Nat.le_refl _, Nat.le_refl _⟩
  refine ⟨by omega, fun X g K ok nmx lev hK en => ?_⟩
  refine tj_aload_n ok 0 dX8_listOutcomes_0 rfl rfl ?_
  refine tj_getR (k := 2) ok fcX8 (by decide) wm_185 rfl (Or.inl ⟨_, rfl⟩) dX8_listOutcomes_1 e1 ?_
  refine tj_callV (rest := ([] : List TV).map (vl g)) (as := []) ok lev (by omega) fcX3.1 (by decide) rfl (of_if e2).1 (k3 g) (CaX.of en (by omega)) kn_X3_clear wm_463 wm_464 wm_465 (rs_ok (Nat.le_of_ble_eq_true rfl)) rfl rfl dX8_listOutcomes_4 ?_
  refine tj_aload_n ok 0 dX8_listOutcomes_7 rfl rfl ?_
  refine tj_aload_n ok 1 dX8_listOutcomes_8 rfl rfl ?_
  refine tj_iload_n ok 2 dX8_listOutcomes_9 rfl rfl ?_
  refine tj_aload_n ok 1 dX8_listOutcomes_10 rfl rfl ?_
  refine tj_iconst (v := 1) ok dX8_listOutcomes_11 (by decide) ?_
  refine tj_callV (rest := ([.inl (a2), .inr (.inr (a1)), .inr (.inr (a0))] : List TV).map (vl g)) (as := [.inl ((1 : Int32))]) ok lev (by omega) fcX5.1 (by decide) rfl (of_if e4).1 (k5 g) (CaX.of en (by omega)) kn_X5_cellsOfKind wm_466 wm_467 wm_468 (rs_ok (Nat.le_of_ble_eq_true rfl)) rfl rfl dX8_listOutcomes_12 ?_
  refine tj_iconst (v := 0) ok dX8_listOutcomes_15 (by decide) ?_
  refine tj_callV (rest := ([] : List TV).map (vl g)) (as := [.inr (.inr (a1)), .inl (a2), .inl (x5), .inl ((0 : Int32))]) ok lev (by omega) fcX8.1 (by decide) rfl (of_if e6).1 (k7 g) (CaX.of en (by omega)) kn_X8_begin wm_469 wm_470 wm_471 (rs_ok (Nat.le_of_ble_eq_true rfl)) rfl rfl dX8_listOutcomes_16 ?_
  refine tj_aload_n ok 0 dX8_listOutcomes_19 rfl rfl ?_
  refine tj_aload_n ok 0 dX8_listOutcomes_20 rfl rfl ?_
  refine tj_getR (k := 0) ok fcX8 (by decide) wm_177 rfl (Or.inl ⟨_, rfl⟩) dX8_listOutcomes_21 e8 ?_
  refine tj_getJ (k := 0) ok fcX2 (by decide) wm_352 rfl rfl dX8_listOutcomes_24 e9 ?_
  refine tj_aload_n ok 0 dX8_listOutcomes_27 rfl rfl ?_
  refine tj_getR (k := 0) ok fcX8 (by decide) wm_177 rfl (Or.inl ⟨_, rfl⟩) dX8_listOutcomes_28 e10 ?_
  refine tj_getJ (k := 1) ok fcX2 (by decide) wm_353 rfl rfl dX8_listOutcomes_31 e11 ?_
  refine tj_aload_n ok 0 dX8_listOutcomes_34 rfl rfl ?_
  refine tj_getR (k := 0) ok fcX8 (by decide) wm_177 rfl (Or.inl ⟨_, rfl⟩) dX8_listOutcomes_35 e12 ?_
  refine tj_getJ (k := 2) ok fcX2 (by decide) wm_354 rfl rfl dX8_listOutcomes_38 e13 ?_
  refine tj_iconst (v := 0) ok dX8_listOutcomes_41 (by decide) ?_
  refine tj_callV (rest := ([] : List TV).map (vl g)) (as := [.inr (.inl (x9)), .inr (.inl (x11)), .inr (.inl (x13)), .inl ((0 : Int32))]) ok lev (by unfold dp_; omega) fcX8.1 (by decide) rfl (of_if e14).1 (k15 g) (CaX.of en (by omega)) kn_X8_visit wm_355 wm_356 wm_357 (rs_ok (Nat.le_of_ble_eq_true rfl)) rfl rfl dX8_listOutcomes_42 ?_
  refine tj_aload_n ok 0 dX8_listOutcomes_45 rfl rfl ?_
  refine tj_getR (k := 2) ok fcX8 (by decide) wm_185 rfl (Or.inl ⟨_, rfl⟩) dX8_listOutcomes_46 e16 ?_
  refine tj_callV (rest := ([] : List TV).map (vl g)) (as := []) ok lev (by omega) fcX3.1 (by decide) rfl (of_if e17).1 (k18 g) (CaX.of en (by omega)) kn_X3_copy wm_472 wm_473 wm_474 (rs_ok (Nat.le_of_ble_eq_true rfl)) rfl rfl dX8_listOutcomes_49 ?_
  exact tj_areturn ok (Or.inr ⟨_, rfl⟩) en dX8_listOutcomes_52
def f_X8_listOutcomes (a0 : Nat) (a1 : Nat) (a2 : Int32) (h : AH) : Option (Nat × AH) := b_X8_listOutcomes_0  a0 a1 a2 h
theorem c_X8_listOutcomes {a0 : Nat} {a1 : Nat} {a2 : Int32} {h hE : AH} {v : Nat} (hf : f_X8_listOutcomes a0 a1 a2 h = some (v, hE)) : ∀ g : GT, CM g (145) yX8_listOutcomes cX8_listOutcomes 3 (some (.array .int)) h [.inr (.inr (a0)), .inr (.inr (a1)), .inl (a2)] hE (some (.inr (.inr (v)))) :=
  CM.ofJ (by decide) (by show _ ≤ 3; exact Nat.le_of_ble_eq_true rfl) (q_X8_listOutcomes_0 hf)
/-! ===== LitmusHouse$Search.findRaces(LLitmusHouse$Program;)J ===== -/
def b_X8_findRaces_0 (a0 : Nat) (a1 : Nat) (h : AH) : Option (Int64 × AH) :=
  (p_j h a0 8 12 (0 : Int64)).bind fun h1 => (ok_v h1 a1 5).bind fun x2 => (f_X5_cellsOfKind a1 (1 : Int32) h1).bind fun q3 => (ok_v q3.2 a0 8).bind fun x4 => (f_X8_begin a0 a1 (3 : Int32) q3.1 (3 : Int32) q3.2).bind fun h5 => (g_r h5 a0 8 0).bind fun x6 => (g_j h5 x6 2 0).bind fun x7 => (g_r h5 a0 8 0).bind fun x8 => (g_j h5 x8 2 1).bind fun x9 => (g_r h5 a0 8 0).bind fun x10 => (g_j h5 x10 2 2).bind fun x11 => (ok_v h5 a0 8).bind fun x12 => (f_X8_visit dp_ a0 x7 x9 x11 (0 : Int32) h5).bind fun h13 => (g_j h13 a0 8 12).bind fun x14 => some (x14, h13)
set_option maxHeartbeats 4000000 in
set_option maxRecDepth 100000 in
theorem q_X8_findRaces_0 {a0 : Nat} {a1 : Nat} {h hE : AH} {v : Int64} (hf : b_X8_findRaces_0 a0 a1 h = some (v, hE)) : JD cX8_findRaces 2 RX8 "findRaces" (some .long) (145) 0 [(0, .inr (.inr (a0))), (1, .inr (.inr (a1)))] [] h hE (some (.inr (.inl (v)))) := by
  unfold b_X8_findRaces_0 at hf
  obtain ⟨h1, e1, hf⟩ := bnd hf
  have m1 := nn_pj e1
  obtain ⟨x2, e2, hf⟩ := bnd hf
  obtain ⟨⟨x3, h3⟩, e3, hf⟩ := bnd hf
  try dsimp only at hf
  have k3 := c_X5_cellsOfKind e3
  have m3 := (k3 default_g).1
  obtain ⟨x4, e4, hf⟩ := bnd hf
  obtain ⟨h5, e5, hf⟩ := bnd hf
  have k5 := c_X8_begin e5
  have m5 := (k5 default_g).1
  obtain ⟨x6, e6, hf⟩ := bnd hf
  obtain ⟨x7, e7, hf⟩ := bnd hf
  obtain ⟨x8, e8, hf⟩ := bnd hf
  obtain ⟨x9, e9, hf⟩ := bnd hf
  obtain ⟨x10, e10, hf⟩ := bnd hf
  obtain ⟨x11, e11, hf⟩ := bnd hf
  obtain ⟨x12, e12, hf⟩ := bnd hf
  obtain ⟨h13, e13, hf⟩ := bnd hf
  have k13 := c_X8_visit dp_ e13
  have m13 := (k13 default_g).1
  obtain ⟨x14, e14, hf⟩ := bnd hf
  obtain ⟨hv, hh⟩ := Prod.mk.inj (Option.some.inj hf)
  subst hv
  subst hh
  have mE : hp_n h13 ≤ hp_n h13 ∧ hp_s h13 ≤ hp_s h13 := ⟨Nat.le_refl _, Nat.le_refl _⟩
  refine ⟨by omega, fun X g K ok nmx lev hK en => ?_⟩
  refine tj_aload_n ok 0 dX8_findRaces_0 rfl rfl ?_
  refine tj_lconst (v := 0) ok dX8_findRaces_1 (by decide) ?_
  refine tj_putJ (k := 12) ok fcX8 (by decide) wm_195 rfl (Or.inl rfl) rfl dX8_findRaces_2 e1 ?_
  refine tj_aload_n ok 0 dX8_findRaces_5 rfl rfl ?_
  refine tj_aload_n ok 1 dX8_findRaces_6 rfl rfl ?_
  refine tj_iconst (v := 3) ok dX8_findRaces_7 (by decide) ?_
  refine tj_aload_n ok 1 dX8_findRaces_8 rfl rfl ?_
  refine tj_iconst (v := 1) ok dX8_findRaces_9 (by decide) ?_
  refine tj_callV (rest := ([.inl ((3 : Int32)), .inr (.inr (a1)), .inr (.inr (a0))] : List TV).map (vl g)) (as := [.inl ((1 : Int32))]) ok lev (by omega) fcX5.1 (by decide) rfl (of_if e2).1 (k3 g) (CaX.of en (by omega)) kn_X5_cellsOfKind wm_466 wm_467 wm_468 (rs_ok (Nat.le_of_ble_eq_true rfl)) rfl rfl dX8_findRaces_10 ?_
  refine tj_iconst (v := 3) ok dX8_findRaces_13 (by decide) ?_
  refine tj_callV (rest := ([] : List TV).map (vl g)) (as := [.inr (.inr (a1)), .inl ((3 : Int32)), .inl (x3), .inl ((3 : Int32))]) ok lev (by omega) fcX8.1 (by decide) rfl (of_if e4).1 (k5 g) (CaX.of en (by omega)) kn_X8_begin wm_469 wm_470 wm_471 (rs_ok (Nat.le_of_ble_eq_true rfl)) rfl rfl dX8_findRaces_14 ?_
  refine tj_aload_n ok 0 dX8_findRaces_17 rfl rfl ?_
  refine tj_aload_n ok 0 dX8_findRaces_18 rfl rfl ?_
  refine tj_getR (k := 0) ok fcX8 (by decide) wm_177 rfl (Or.inl ⟨_, rfl⟩) dX8_findRaces_19 e6 ?_
  refine tj_getJ (k := 0) ok fcX2 (by decide) wm_352 rfl rfl dX8_findRaces_22 e7 ?_
  refine tj_aload_n ok 0 dX8_findRaces_25 rfl rfl ?_
  refine tj_getR (k := 0) ok fcX8 (by decide) wm_177 rfl (Or.inl ⟨_, rfl⟩) dX8_findRaces_26 e8 ?_
  refine tj_getJ (k := 1) ok fcX2 (by decide) wm_353 rfl rfl dX8_findRaces_29 e9 ?_
  refine tj_aload_n ok 0 dX8_findRaces_32 rfl rfl ?_
  refine tj_getR (k := 0) ok fcX8 (by decide) wm_177 rfl (Or.inl ⟨_, rfl⟩) dX8_findRaces_33 e10 ?_
  refine tj_getJ (k := 2) ok fcX2 (by decide) wm_354 rfl rfl dX8_findRaces_36 e11 ?_
  refine tj_iconst (v := 0) ok dX8_findRaces_39 (by decide) ?_
  refine tj_callV (rest := ([] : List TV).map (vl g)) (as := [.inr (.inl (x7)), .inr (.inl (x9)), .inr (.inl (x11)), .inl ((0 : Int32))]) ok lev (by unfold dp_; omega) fcX8.1 (by decide) rfl (of_if e12).1 (k13 g) (CaX.of en (by omega)) kn_X8_visit wm_355 wm_356 wm_357 (rs_ok (Nat.le_of_ble_eq_true rfl)) rfl rfl dX8_findRaces_40 ?_
  refine tj_aload_n ok 0 dX8_findRaces_43 rfl rfl ?_
  refine tj_getJ (k := 12) ok fcX8 (by decide) wm_195 rfl rfl dX8_findRaces_44 e14 ?_
  exact tj_lreturn ok en dX8_findRaces_47
def f_X8_findRaces (a0 : Nat) (a1 : Nat) (h : AH) : Option (Int64 × AH) := b_X8_findRaces_0  a0 a1 h
theorem c_X8_findRaces {a0 : Nat} {a1 : Nat} {h hE : AH} {v : Int64} (hf : f_X8_findRaces a0 a1 h = some (v, hE)) : ∀ g : GT, CM g (145) yX8_findRaces cX8_findRaces 2 (some .long) h [.inr (.inr (a0)), .inr (.inr (a1))] hE (some (.inr (.inl (v)))) :=
  CM.ofJ (by decide) (by show _ ≤ 2; exact Nat.le_of_ble_eq_true rfl) (q_X8_findRaces_0 hf)
/-! ===== LitmusHouse$Search.witnessThread(I)I ===== -/
def b_X8_witnessThread_31 (s0 : Int32) (h : AH) : Option (Int32 × AH) :=
  some (s0, h)
set_option maxHeartbeats 4000000 in
set_option maxRecDepth 100000 in
theorem q_X8_witnessThread_31 {s0 : Int32} {h hE : AH} {v : Int32} (hf : b_X8_witnessThread_31 s0 h = some (v, hE)) : JD cX8_witnessThread 2 RX8 "witnessThread" (some .int) (2) 31 [] [.inl (s0)] h hE (some (.inl (v))) := by
  unfold b_X8_witnessThread_31 at hf
  obtain ⟨hv, hh⟩ := Prod.mk.inj (Option.some.inj hf)
  subst hv
  subst hh
  have mE : hp_n h ≤ hp_n h ∧ hp_s h ≤ hp_s h := ⟨Nat.le_refl _, Nat.le_refl _⟩
  refine ⟨by omega, fun X g K ok nmx lev hK en => ?_⟩
  exact tj_ireturn ok en dX8_witnessThread_31
def b_X8_witnessThread_30  (h : AH) : Option (Int32 × AH) :=
  b_X8_witnessThread_31 (-1 : Int32) h
set_option maxHeartbeats 4000000 in
set_option maxRecDepth 100000 in
theorem q_X8_witnessThread_30 {h hE : AH} {v : Int32} (hf : b_X8_witnessThread_30  h = some (v, hE)) : JD cX8_witnessThread 2 RX8 "witnessThread" (some .int) (2) 30 [] [] h hE (some (.inl (v))) := by
  unfold b_X8_witnessThread_30 at hf
  have J := q_X8_witnessThread_31 hf
  have mE := J.1
  refine ⟨by omega, fun X g K ok nmx lev hK en => ?_⟩
  refine tj_iconst (v := -1) ok dX8_witnessThread_30 (by decide) ?_
  exact J.2 X g K ok nmx lev hK en
def b_X8_witnessThread_21 (a0 : Nat) (a1 : Int32) (h : AH) : Option (Int32 × AH) :=
  (g_r h a0 8 4).bind fun x1 => (l_i h x1 a1).bind fun x2 => b_X8_witnessThread_31 x2 h
set_option maxHeartbeats 4000000 in
set_option maxRecDepth 100000 in
theorem q_X8_witnessThread_21 {a0 : Nat} {a1 : Int32} {h hE : AH} {v : Int32} (hf : b_X8_witnessThread_21 a0 a1 h = some (v, hE)) : JD cX8_witnessThread 2 RX8 "witnessThread" (some .int) (2) 21 [(0, .inr (.inr (a0))), (1, .inl (a1))] [] h hE (some (.inl (v))) := by
  unfold b_X8_witnessThread_21 at hf
  obtain ⟨x1, e1, hf⟩ := bnd hf
  obtain ⟨x2, e2, hf⟩ := bnd hf
  have J := q_X8_witnessThread_31 hf
  have mE := J.1
  refine ⟨by omega, fun X g K ok nmx lev hK en => ?_⟩
  refine tj_aload_n ok 0 dX8_witnessThread_21 rfl rfl ?_
  refine tj_getR (k := 4) ok fcX8 (by decide) wm_187 rfl (Or.inr ⟨_, rfl⟩) dX8_witnessThread_22 e1 ?_
  refine tj_iload_n ok 1 dX8_witnessThread_25 rfl rfl ?_
  refine tj_iaload ok dX8_witnessThread_26 e2 ?_
  refine tj_goto (tgt := 31) ok dX8_witnessThread_27 (by decide) ?_
  refine tj_sub (lv' := []) [] rfl ?_
  exact J.2 X g K ok nmx lev hK en
def b_X8_witnessThread_12 (a0 : Nat) (a1 : Int32) (h : AH) : Option (Int32 × AH) :=
  (g_r h a0 8 4).bind fun x1 => (al_n h x1).bind fun x2 => if x2 ≤ a1 then b_X8_witnessThread_30 h else b_X8_witnessThread_21 a0 a1 h
set_option maxHeartbeats 4000000 in
set_option maxRecDepth 100000 in
theorem q_X8_witnessThread_12 {a0 : Nat} {a1 : Int32} {h hE : AH} {v : Int32} (hf : b_X8_witnessThread_12 a0 a1 h = some (v, hE)) : JD cX8_witnessThread 2 RX8 "witnessThread" (some .int) (2) 12 [(0, .inr (.inr (a0))), (1, .inl (a1))] [] h hE (some (.inl (v))) := by
  unfold b_X8_witnessThread_12 at hf
  obtain ⟨x1, e1, hf⟩ := bnd hf
  obtain ⟨x2, e2, hf⟩ := bnd hf
  have mE : hp_n h ≤ hp_n hE ∧ hp_s h ≤ hp_s hE := by
    by_cases hc : x2 ≤ a1
    · rw [if_pos hc] at hf; exact (q_X8_witnessThread_30 hf).1
    · rw [if_neg hc] at hf; exact (q_X8_witnessThread_21 hf).1
  refine ⟨by omega, fun X g K ok nmx lev hK en => ?_⟩
  refine tj_iload_n ok 1 dX8_witnessThread_12 rfl rfl ?_
  refine tj_aload_n ok 0 dX8_witnessThread_13 rfl rfl ?_
  refine tj_getR (k := 4) ok fcX8 (by decide) wm_187 rfl (Or.inr ⟨_, rfl⟩) dX8_witnessThread_14 e1 ?_
  refine tj_alen ok dX8_witnessThread_17 e2 ?_
  refine tj_icmp_ge (tgt := 30) ok dX8_witnessThread_18 (by decide) (fun hc => ?_) (fun hc => ?_)
  · rw [if_pos hc] at hf
    refine tj_sub (lv' := []) [] rfl ?_
    exact (q_X8_witnessThread_30 hf).2 X g K ok nmx lev hK en
  · rw [if_neg hc] at hf
    exact (q_X8_witnessThread_21 hf).2 X g K ok nmx lev hK en
def b_X8_witnessThread_4 (a0 : Nat) (a1 : Int32) (h : AH) : Option (Int32 × AH) :=
  (g_i h a0 8 5).bind fun x1 => if x1 ≤ a1 then b_X8_witnessThread_30 h else b_X8_witnessThread_12 a0 a1 h
set_option maxHeartbeats 4000000 in
set_option maxRecDepth 100000 in
theorem q_X8_witnessThread_4 {a0 : Nat} {a1 : Int32} {h hE : AH} {v : Int32} (hf : b_X8_witnessThread_4 a0 a1 h = some (v, hE)) : JD cX8_witnessThread 2 RX8 "witnessThread" (some .int) (2) 4 [(0, .inr (.inr (a0))), (1, .inl (a1))] [] h hE (some (.inl (v))) := by
  unfold b_X8_witnessThread_4 at hf
  obtain ⟨x1, e1, hf⟩ := bnd hf
  have mE : hp_n h ≤ hp_n hE ∧ hp_s h ≤ hp_s hE := by
    by_cases hc : x1 ≤ a1
    · rw [if_pos hc] at hf; exact (q_X8_witnessThread_30 hf).1
    · rw [if_neg hc] at hf; exact (q_X8_witnessThread_12 hf).1
  refine ⟨by omega, fun X g K ok nmx lev hK en => ?_⟩
  refine tj_iload_n ok 1 dX8_witnessThread_4 rfl rfl ?_
  refine tj_aload_n ok 0 dX8_witnessThread_5 rfl rfl ?_
  refine tj_getI (k := 5) ok fcX8 (by decide) wm_188 rfl (Or.inl rfl) dX8_witnessThread_6 e1 ?_
  refine tj_icmp_ge (tgt := 30) ok dX8_witnessThread_9 (by decide) (fun hc => ?_) (fun hc => ?_)
  · rw [if_pos hc] at hf
    refine tj_sub (lv' := []) [] rfl ?_
    exact (q_X8_witnessThread_30 hf).2 X g K ok nmx lev hK en
  · rw [if_neg hc] at hf
    exact (q_X8_witnessThread_12 hf).2 X g K ok nmx lev hK en
def b_X8_witnessThread_0 (a0 : Nat) (a1 : Int32) (h : AH) : Option (Int32 × AH) :=
  if a1 < 0 then b_X8_witnessThread_30 h else b_X8_witnessThread_4 a0 a1 h
set_option maxHeartbeats 4000000 in
set_option maxRecDepth 100000 in
theorem q_X8_witnessThread_0 {a0 : Nat} {a1 : Int32} {h hE : AH} {v : Int32} (hf : b_X8_witnessThread_0 a0 a1 h = some (v, hE)) : JD cX8_witnessThread 2 RX8 "witnessThread" (some .int) (2) 0 [(0, .inr (.inr (a0))), (1, .inl (a1))] [] h hE (some (.inl (v))) := by
  unfold b_X8_witnessThread_0 at hf
  have mE : hp_n h ≤ hp_n hE ∧ hp_s h ≤ hp_s hE := by
    by_cases hc : a1 < 0
    · rw [if_pos hc] at hf; exact (q_X8_witnessThread_30 hf).1
    · rw [if_neg hc] at hf; exact (q_X8_witnessThread_4 hf).1
  refine ⟨by omega, fun X g K ok nmx lev hK en => ?_⟩
  refine tj_iload_n ok 1 dX8_witnessThread_0 rfl rfl ?_
  refine tj_if_lt (tgt := 30) ok dX8_witnessThread_1 (by decide) (fun hc => ?_) (fun hc => ?_)
  · rw [if_pos hc] at hf
    refine tj_sub (lv' := []) [] rfl ?_
    exact (q_X8_witnessThread_30 hf).2 X g K ok nmx lev hK en
  · rw [if_neg hc] at hf
    exact (q_X8_witnessThread_4 hf).2 X g K ok nmx lev hK en
def f_X8_witnessThread (a0 : Nat) (a1 : Int32) (h : AH) : Option (Int32 × AH) := b_X8_witnessThread_0  a0 a1 h
theorem c_X8_witnessThread {a0 : Nat} {a1 : Int32} {h hE : AH} {v : Int32} (hf : f_X8_witnessThread a0 a1 h = some (v, hE)) : ∀ g : GT, CM g (2) yX8_witnessThread cX8_witnessThread 2 (some .int) h [.inr (.inr (a0)), .inl (a1)] hE (some (.inl (v))) :=
  CM.ofJ (by decide) (by show _ ≤ 2; exact Nat.le_of_ble_eq_true rfl) (q_X8_witnessThread_0 hf)
/-! ===== LitmusHouse$Search.findWitness(LLitmusHouse$Program;[I)I ===== -/
def b_X8_findWitness_56 (a0 : Nat) (h : AH) : Option (Int32 × AH) :=
  (g_i h a0 8 6).bind fun x1 => (p_i h a0 8 5 x1).bind fun h2 => (g_i h2 a0 8 5).bind fun x3 => some (x3, h2)
set_option maxHeartbeats 4000000 in
set_option maxRecDepth 100000 in
theorem q_X8_findWitness_56 {a0 : Nat} {h hE : AH} {v : Int32} (hf : b_X8_findWitness_56 a0 h = some (v, hE)) : JD cX8_findWitness 3 RX8 "findWitness" (some .int) (145) 56 [(0, .inr (.inr (a0)))] [] h hE (some (.inl (v))) := by
  unfold b_X8_findWitness_56 at hf
  obtain ⟨x1, e1, hf⟩ := bnd hf
  obtain ⟨h2, e2, hf⟩ := bnd hf
  have m2 := nn_pi e2
  obtain ⟨x3, e3, hf⟩ := bnd hf
  obtain ⟨hv, hh⟩ := Prod.mk.inj (Option.some.inj hf)
  subst hv
  subst hh
  have mE : hp_n h2 ≤ hp_n h2 ∧ hp_s h2 ≤ hp_s h2 := ⟨Nat.le_refl _, Nat.le_refl _⟩
  refine ⟨by omega, fun X g K ok nmx lev hK en => ?_⟩
  refine tj_aload_n ok 0 dX8_findWitness_56 rfl rfl ?_
  refine tj_aload_n ok 0 dX8_findWitness_57 rfl rfl ?_
  refine tj_getI (k := 6) ok fcX8 (by decide) wm_189 rfl (Or.inl rfl) dX8_findWitness_58 e1 ?_
  refine tj_putI (k := 5) ok fcX8 (by decide) wm_188 rfl (Or.inl rfl) rfl dX8_findWitness_61 e2 ?_
  refine tj_aload_n ok 0 dX8_findWitness_64 rfl rfl ?_
  refine tj_getI (k := 5) ok fcX8 (by decide) wm_188 rfl (Or.inl rfl) dX8_findWitness_65 e3 ?_
  exact tj_ireturn ok en dX8_findWitness_68
def b_X8_findWitness_54  (h : AH) : Option (Int32 × AH) :=
  some ((-1 : Int32), h)
set_option maxHeartbeats 4000000 in
set_option maxRecDepth 100000 in
theorem q_X8_findWitness_54 {h hE : AH} {v : Int32} (hf : b_X8_findWitness_54  h = some (v, hE)) : JD cX8_findWitness 3 RX8 "findWitness" (some .int) (145) 54 [] [] h hE (some (.inl (v))) := by
  unfold b_X8_findWitness_54 at hf
  obtain ⟨hv, hh⟩ := Prod.mk.inj (Option.some.inj hf)
  subst hv
  subst hh
  have mE : hp_n h ≤ hp_n h ∧ hp_s h ≤ hp_s h := ⟨Nat.le_refl _, Nat.le_refl _⟩
  refine ⟨by omega, fun X g K ok nmx lev hK en => ?_⟩
  refine tj_iconst (v := -1) ok dX8_findWitness_54 (by decide) ?_
  exact tj_ireturn ok en dX8_findWitness_55
def b_X8_findWitness_0 (a0 : Nat) (a1 : Nat) (a2 : Nat) (h : AH) : Option (Int32 × AH) :=
  (p_r h a0 8 9 a2).bind fun h1 => (p_i h1 a0 8 6 (17 : Int32)).bind fun h2 => (ok_v h2 a0 8).bind fun x3 => (f_X8_begin a0 a1 (0 : Int32) (0 : Int32) (2 : Int32) h2).bind fun h4 => (g_r h4 a0 8 0).bind fun x5 => (g_j h4 x5 2 0).bind fun x6 => (g_r h4 a0 8 0).bind fun x7 => (g_j h4 x7 2 1).bind fun x8 => (g_r h4 a0 8 0).bind fun x9 => (g_j h4 x9 2 2).bind fun x10 => (ok_v h4 a0 8).bind fun x11 => (f_X8_visit dp_ a0 x6 x8 x10 (0 : Int32) h4).bind fun h12 => (g_i h12 a0 8 6).bind fun x13 => if x13 ≤ (16 : Int32) then b_X8_findWitness_56 a0 h12 else b_X8_findWitness_54 h12
set_option maxHeartbeats 4000000 in
set_option maxRecDepth 100000 in
theorem q_X8_findWitness_0 {a0 : Nat} {a1 : Nat} {a2 : Nat} {h hE : AH} {v : Int32} (hf : b_X8_findWitness_0 a0 a1 a2 h = some (v, hE)) : JD cX8_findWitness 3 RX8 "findWitness" (some .int) (145) 0 [(0, .inr (.inr (a0))), (1, .inr (.inr (a1))), (2, .inr (.inr (a2)))] [] h hE (some (.inl (v))) := by
  unfold b_X8_findWitness_0 at hf
  obtain ⟨h1, e1, hf⟩ := bnd hf
  have m1 := nn_pr e1
  obtain ⟨h2, e2, hf⟩ := bnd hf
  have m2 := nn_pi e2
  obtain ⟨x3, e3, hf⟩ := bnd hf
  obtain ⟨h4, e4, hf⟩ := bnd hf
  have k4 := c_X8_begin e4
  have m4 := (k4 default_g).1
  obtain ⟨x5, e5, hf⟩ := bnd hf
  obtain ⟨x6, e6, hf⟩ := bnd hf
  obtain ⟨x7, e7, hf⟩ := bnd hf
  obtain ⟨x8, e8, hf⟩ := bnd hf
  obtain ⟨x9, e9, hf⟩ := bnd hf
  obtain ⟨x10, e10, hf⟩ := bnd hf
  obtain ⟨x11, e11, hf⟩ := bnd hf
  obtain ⟨h12, e12, hf⟩ := bnd hf
  have k12 := c_X8_visit dp_ e12
  have m12 := (k12 default_g).1
  obtain ⟨x13, e13, hf⟩ := bnd hf
  have mE : hp_n h12 ≤ hp_n hE ∧ hp_s h12 ≤ hp_s hE := by
    by_cases hc : x13 ≤ (16 : Int32)
    · rw [if_pos hc] at hf; exact (q_X8_findWitness_56 hf).1
    · rw [if_neg hc] at hf; exact (q_X8_findWitness_54 hf).1
  refine ⟨by omega, fun X g K ok nmx lev hK en => ?_⟩
  refine tj_aload_n ok 0 dX8_findWitness_0 rfl rfl ?_
  refine tj_aload_n ok 2 dX8_findWitness_1 rfl rfl ?_
  refine tj_putR (k := 9) ok fcX8 (by decide) wm_192 rfl (Or.inl rfl) (Or.inr ⟨_, rfl⟩) dX8_findWitness_2 e1 ?_
  refine tj_aload_n ok 0 dX8_findWitness_5 rfl rfl ?_
  refine tj_bipush (v := 17) ok dX8_findWitness_6 (by decide) ?_
  refine tj_putI (k := 6) ok fcX8 (by decide) wm_189 rfl (Or.inl rfl) rfl dX8_findWitness_8 e2 ?_
  refine tj_aload_n ok 0 dX8_findWitness_11 rfl rfl ?_
  refine tj_aload_n ok 1 dX8_findWitness_12 rfl rfl ?_
  refine tj_iconst (v := 0) ok dX8_findWitness_13 (by decide) ?_
  refine tj_iconst (v := 0) ok dX8_findWitness_14 (by decide) ?_
  refine tj_iconst (v := 2) ok dX8_findWitness_15 (by decide) ?_
  refine tj_callV (rest := ([] : List TV).map (vl g)) (as := [.inr (.inr (a1)), .inl ((0 : Int32)), .inl ((0 : Int32)), .inl ((2 : Int32))]) ok lev (by omega) fcX8.1 (by decide) rfl (of_if e3).1 (k4 g) (CaX.of en (by omega)) kn_X8_begin wm_469 wm_470 wm_471 (rs_ok (Nat.le_of_ble_eq_true rfl)) rfl rfl dX8_findWitness_16 ?_
  refine tj_aload_n ok 0 dX8_findWitness_19 rfl rfl ?_
  refine tj_aload_n ok 0 dX8_findWitness_20 rfl rfl ?_
  refine tj_getR (k := 0) ok fcX8 (by decide) wm_177 rfl (Or.inl ⟨_, rfl⟩) dX8_findWitness_21 e5 ?_
  refine tj_getJ (k := 0) ok fcX2 (by decide) wm_352 rfl rfl dX8_findWitness_24 e6 ?_
  refine tj_aload_n ok 0 dX8_findWitness_27 rfl rfl ?_
  refine tj_getR (k := 0) ok fcX8 (by decide) wm_177 rfl (Or.inl ⟨_, rfl⟩) dX8_findWitness_28 e7 ?_
  refine tj_getJ (k := 1) ok fcX2 (by decide) wm_353 rfl rfl dX8_findWitness_31 e8 ?_
  refine tj_aload_n ok 0 dX8_findWitness_34 rfl rfl ?_
  refine tj_getR (k := 0) ok fcX8 (by decide) wm_177 rfl (Or.inl ⟨_, rfl⟩) dX8_findWitness_35 e9 ?_
  refine tj_getJ (k := 2) ok fcX2 (by decide) wm_354 rfl rfl dX8_findWitness_38 e10 ?_
  refine tj_iconst (v := 0) ok dX8_findWitness_41 (by decide) ?_
  refine tj_callV (rest := ([] : List TV).map (vl g)) (as := [.inr (.inl (x6)), .inr (.inl (x8)), .inr (.inl (x10)), .inl ((0 : Int32))]) ok lev (by unfold dp_; omega) fcX8.1 (by decide) rfl (of_if e11).1 (k12 g) (CaX.of en (by omega)) kn_X8_visit wm_355 wm_356 wm_357 (rs_ok (Nat.le_of_ble_eq_true rfl)) rfl rfl dX8_findWitness_42 ?_
  refine tj_aload_n ok 0 dX8_findWitness_45 rfl rfl ?_
  refine tj_getI (k := 6) ok fcX8 (by decide) wm_189 rfl (Or.inl rfl) dX8_findWitness_46 e13 ?_
  refine tj_bipush (v := 16) ok dX8_findWitness_49 (by decide) ?_
  refine tj_icmp_le (tgt := 56) ok dX8_findWitness_51 (by decide) (fun hc => ?_) (fun hc => ?_)
  · rw [if_pos hc] at hf
    refine tj_sub (lv' := [(0, .inr (.inr (a0)))]) [0] rfl ?_
    exact (q_X8_findWitness_56 hf).2 X g K ok nmx lev hK en
  · rw [if_neg hc] at hf
    refine tj_sub (lv' := []) [] rfl ?_
    exact (q_X8_findWitness_54 hf).2 X g K ok nmx lev hK en
def f_X8_findWitness (a0 : Nat) (a1 : Nat) (a2 : Nat) (h : AH) : Option (Int32 × AH) := b_X8_findWitness_0  a0 a1 a2 h
theorem c_X8_findWitness {a0 : Nat} {a1 : Nat} {a2 : Nat} {h hE : AH} {v : Int32} (hf : f_X8_findWitness a0 a1 a2 h = some (v, hE)) : ∀ g : GT, CM g (145) yX8_findWitness cX8_findWitness 3 (some .int) h [.inr (.inr (a0)), .inr (.inr (a1)), .inr (.inr (a2))] hE (some (.inl (v))) :=
  CM.ofJ (by decide) (by show _ ≤ 3; exact Nat.le_of_ble_eq_true rfl) (q_X8_findWitness_0 hf)
/-! ===== LitmusHouse$Search.staysWithin(LLitmusHouse$Program;II[I)Z ===== -/
def b_X8_staysWithin_58 (s0 : Int32) (h : AH) : Option (Int32 × AH) :=
  ok_z s0 h
set_option maxHeartbeats 4000000 in
set_option maxRecDepth 100000 in
theorem q_X8_staysWithin_58 {s0 : Int32} {h hE : AH} {v : Int32} (hf : b_X8_staysWithin_58 s0 h = some (v, hE)) : JD cX8_staysWithin 5 RX8 "staysWithin" (some .boolean) (145) 58 [] [.inl (s0)] h hE (some (.inl (v))) := by
  unfold b_X8_staysWithin_58 at hf
  have mE : hp_n h ≤ hp_n hE ∧ hp_s h ≤ hp_s hE := by obtain ⟨-, q⟩ := of_if hf; cases q; exact ⟨Nat.le_refl _, Nat.le_refl _⟩
  refine ⟨by omega, fun X g K ok nmx lev hK en => ?_⟩
  exact tj_zreturn ok hf en dX8_staysWithin_58
def b_X8_staysWithin_57  (h : AH) : Option (Int32 × AH) :=
  b_X8_staysWithin_58 (0 : Int32) h
set_option maxHeartbeats 4000000 in
set_option maxRecDepth 100000 in
theorem q_X8_staysWithin_57 {h hE : AH} {v : Int32} (hf : b_X8_staysWithin_57  h = some (v, hE)) : JD cX8_staysWithin 5 RX8 "staysWithin" (some .boolean) (145) 57 [] [] h hE (some (.inl (v))) := by
  unfold b_X8_staysWithin_57 at hf
  have J := q_X8_staysWithin_58 hf
  have mE := J.1
  refine ⟨by omega, fun X g K ok nmx lev hK en => ?_⟩
  refine tj_iconst (v := 0) ok dX8_staysWithin_57 (by decide) ?_
  exact J.2 X g K ok nmx lev hK en
def b_X8_staysWithin_53  (h : AH) : Option (Int32 × AH) :=
  b_X8_staysWithin_58 (1 : Int32) h
set_option maxHeartbeats 4000000 in
set_option maxRecDepth 100000 in
theorem q_X8_staysWithin_53 {h hE : AH} {v : Int32} (hf : b_X8_staysWithin_53  h = some (v, hE)) : JD cX8_staysWithin 5 RX8 "staysWithin" (some .boolean) (145) 53 [] [] h hE (some (.inl (v))) := by
  unfold b_X8_staysWithin_53 at hf
  have J := q_X8_staysWithin_58 hf
  have mE := J.1
  refine ⟨by omega, fun X g K ok nmx lev hK en => ?_⟩
  refine tj_iconst (v := 1) ok dX8_staysWithin_53 (by decide) ?_
  refine tj_goto (tgt := 58) ok dX8_staysWithin_54 (by decide) ?_
  exact J.2 X g K ok nmx lev hK en
def b_X8_staysWithin_0 (a0 : Nat) (a1 : Nat) (a2 : Int32) (a3 : Int32) (a4 : Nat) (h : AH) : Option (Int32 × AH) :=
  (p_r h a0 8 10 a4).bind fun h1 => (ok_v h1 a1 5).bind fun x2 => (f_X5_cellsOfKind a1 (1 : Int32) h1).bind fun q3 => (ok_v q3.2 a0 8).bind fun x4 => (f_X8_begin a0 a1 a2 (q3.1 ||| a3) (1 : Int32) q3.2).bind fun h5 => (g_r h5 a0 8 0).bind fun x6 => (g_j h5 x6 2 0).bind fun x7 => (g_r h5 a0 8 0).bind fun x8 => (g_j h5 x8 2 1).bind fun x9 => (g_r h5 a0 8 0).bind fun x10 => (g_j h5 x10 2 2).bind fun x11 => (ok_v h5 a0 8).bind fun x12 => (f_X8_visit dp_ a0 x7 x9 x11 (0 : Int32) h5).bind fun h13 => (g_i h13 a0 8 11).bind fun x14 => if x14 = 0 then b_X8_staysWithin_53 h13 else b_X8_staysWithin_57 h13
set_option maxHeartbeats 4000000 in
set_option maxRecDepth 100000 in
theorem q_X8_staysWithin_0 {a0 : Nat} {a1 : Nat} {a2 : Int32} {a3 : Int32} {a4 : Nat} {h hE : AH} {v : Int32} (hf : b_X8_staysWithin_0 a0 a1 a2 a3 a4 h = some (v, hE)) : JD cX8_staysWithin 5 RX8 "staysWithin" (some .boolean) (145) 0 [(0, .inr (.inr (a0))), (1, .inr (.inr (a1))), (2, .inl (a2)), (3, .inl (a3)), (4, .inr (.inr (a4)))] [] h hE (some (.inl (v))) := by
  unfold b_X8_staysWithin_0 at hf
  obtain ⟨h1, e1, hf⟩ := bnd hf
  have m1 := nn_pr e1
  obtain ⟨x2, e2, hf⟩ := bnd hf
  obtain ⟨⟨x3, h3⟩, e3, hf⟩ := bnd hf
  try dsimp only at hf
  have k3 := c_X5_cellsOfKind e3
  have m3 := (k3 default_g).1
  obtain ⟨x4, e4, hf⟩ := bnd hf
  obtain ⟨h5, e5, hf⟩ := bnd hf
  have k5 := c_X8_begin e5
  have m5 := (k5 default_g).1
  obtain ⟨x6, e6, hf⟩ := bnd hf
  obtain ⟨x7, e7, hf⟩ := bnd hf
  obtain ⟨x8, e8, hf⟩ := bnd hf
  obtain ⟨x9, e9, hf⟩ := bnd hf
  obtain ⟨x10, e10, hf⟩ := bnd hf
  obtain ⟨x11, e11, hf⟩ := bnd hf
  obtain ⟨x12, e12, hf⟩ := bnd hf
  obtain ⟨h13, e13, hf⟩ := bnd hf
  have k13 := c_X8_visit dp_ e13
  have m13 := (k13 default_g).1
  obtain ⟨x14, e14, hf⟩ := bnd hf
  have mE : hp_n h13 ≤ hp_n hE ∧ hp_s h13 ≤ hp_s hE := by
    by_cases hc : x14 = 0
    · rw [if_pos hc] at hf; exact (q_X8_staysWithin_53 hf).1
    · rw [if_neg hc] at hf; exact (q_X8_staysWithin_57 hf).1
  refine ⟨by omega, fun X g K ok nmx lev hK en => ?_⟩
  refine tj_aload_n ok 0 dX8_staysWithin_0 rfl rfl ?_
  refine tj_aload ok 4 dX8_staysWithin_1 rfl ?_
  refine tj_putR (k := 10) ok fcX8 (by decide) wm_193 rfl (Or.inl rfl) (Or.inr ⟨_, rfl⟩) dX8_staysWithin_3 e1 ?_
  refine tj_aload_n ok 0 dX8_staysWithin_6 rfl rfl ?_
  refine tj_aload_n ok 1 dX8_staysWithin_7 rfl rfl ?_
  refine tj_iload_n ok 2 dX8_staysWithin_8 rfl rfl ?_
  refine tj_aload_n ok 1 dX8_staysWithin_9 rfl rfl ?_
  refine tj_iconst (v := 1) ok dX8_staysWithin_10 (by decide) ?_
  refine tj_callV (rest := ([.inl (a2), .inr (.inr (a1)), .inr (.inr (a0))] : List TV).map (vl g)) (as := [.inl ((1 : Int32))]) ok lev (by omega) fcX5.1 (by decide) rfl (of_if e2).1 (k3 g) (CaX.of en (by omega)) kn_X5_cellsOfKind wm_466 wm_467 wm_468 (rs_ok (Nat.le_of_ble_eq_true rfl)) rfl rfl dX8_staysWithin_11 ?_
  refine tj_iload_n ok 3 dX8_staysWithin_14 rfl rfl ?_
  refine tj_ior ok dX8_staysWithin_15 ?_
  refine tj_iconst (v := 1) ok dX8_staysWithin_16 (by decide) ?_
  refine tj_callV (rest := ([] : List TV).map (vl g)) (as := [.inr (.inr (a1)), .inl (a2), .inl (x3 ||| a3), .inl ((1 : Int32))]) ok lev (by omega) fcX8.1 (by decide) rfl (of_if e4).1 (k5 g) (CaX.of en (by omega)) kn_X8_begin wm_469 wm_470 wm_471 (rs_ok (Nat.le_of_ble_eq_true rfl)) rfl rfl dX8_staysWithin_17 ?_
  refine tj_aload_n ok 0 dX8_staysWithin_20 rfl rfl ?_
  refine tj_aload_n ok 0 dX8_staysWithin_21 rfl rfl ?_
  refine tj_getR (k := 0) ok fcX8 (by decide) wm_177 rfl (Or.inl ⟨_, rfl⟩) dX8_staysWithin_22 e6 ?_
  refine tj_getJ (k := 0) ok fcX2 (by decide) wm_352 rfl rfl dX8_staysWithin_25 e7 ?_
  refine tj_aload_n ok 0 dX8_staysWithin_28 rfl rfl ?_
  refine tj_getR (k := 0) ok fcX8 (by decide) wm_177 rfl (Or.inl ⟨_, rfl⟩) dX8_staysWithin_29 e8 ?_
  refine tj_getJ (k := 1) ok fcX2 (by decide) wm_353 rfl rfl dX8_staysWithin_32 e9 ?_
  refine tj_aload_n ok 0 dX8_staysWithin_35 rfl rfl ?_
  refine tj_getR (k := 0) ok fcX8 (by decide) wm_177 rfl (Or.inl ⟨_, rfl⟩) dX8_staysWithin_36 e10 ?_
  refine tj_getJ (k := 2) ok fcX2 (by decide) wm_354 rfl rfl dX8_staysWithin_39 e11 ?_
  refine tj_iconst (v := 0) ok dX8_staysWithin_42 (by decide) ?_
  refine tj_callV (rest := ([] : List TV).map (vl g)) (as := [.inr (.inl (x7)), .inr (.inl (x9)), .inr (.inl (x11)), .inl ((0 : Int32))]) ok lev (by unfold dp_; omega) fcX8.1 (by decide) rfl (of_if e12).1 (k13 g) (CaX.of en (by omega)) kn_X8_visit wm_355 wm_356 wm_357 (rs_ok (Nat.le_of_ble_eq_true rfl)) rfl rfl dX8_staysWithin_43 ?_
  refine tj_aload_n ok 0 dX8_staysWithin_46 rfl rfl ?_
  refine tj_getI (k := 11) ok fcX8 (by decide) wm_194 rfl (Or.inr rfl) dX8_staysWithin_47 e14 ?_
  refine tj_if_ne (tgt := 57) ok dX8_staysWithin_50 (by decide) (fun hc => ?_) (fun hc => ?_)
  · rw [if_neg hc] at hf
    refine tj_sub (lv' := []) [] rfl ?_
    exact (q_X8_staysWithin_57 hf).2 X g K ok nmx lev hK en
  · rw [if_pos hc] at hf
    refine tj_sub (lv' := []) [] rfl ?_
    exact (q_X8_staysWithin_53 hf).2 X g K ok nmx lev hK en
def f_X8_staysWithin (a0 : Nat) (a1 : Nat) (a2 : Int32) (a3 : Int32) (a4 : Nat) (h : AH) : Option (Int32 × AH) := b_X8_staysWithin_0  a0 a1 a2 a3 a4 h
theorem c_X8_staysWithin {a0 : Nat} {a1 : Nat} {a2 : Int32} {a3 : Int32} {a4 : Nat} {h hE : AH} {v : Int32} (hf : f_X8_staysWithin a0 a1 a2 a3 a4 h = some (v, hE)) : ∀ g : GT, CM g (145) yX8_staysWithin cX8_staysWithin 5 (some .boolean) h [.inr (.inr (a0)), .inr (.inr (a1)), .inl (a2), .inl (a3), .inr (.inr (a4))] hE (some (.inl (v))) :=
  CM.ofJ (by decide) (by show _ ≤ 5; exact Nat.le_of_ble_eq_true rfl) (q_X8_staysWithin_0 hf)
