theorem dX7_init_0 : decode cX7_init 0 = .ok (.aload_n 0, 1) := by decide +kernel
theorem dX7_init_1 : decode cX7_init 1 = .ok (.invokespecial 3, 3) := by decide +kernel
theorem dX7_init_4 : decode cX7_init 4 = .ok (.aload_n 0, 1) := by decide +kernel
theorem dX7_init_5 : decode cX7_init 5 = .ok (.iconst 0, 1) := by decide +kernel
theorem dX7_init_6 : decode cX7_init 6 = .ok (.putfield 11, 3) := by decide +kernel
theorem dX7_init_9 : decode cX7_init 9 = .ok (.aload_n 0, 1) := by decide +kernel
theorem dX7_init_10 : decode cX7_init 10 = .ok (.iconst (-1), 1) := by decide +kernel
theorem dX7_init_11 : decode cX7_init 11 = .ok (.putfield 15, 3) := by decide +kernel
theorem dX7_init_14 : decode cX7_init 14 = .ok (.aload_n 0, 1) := by decide +kernel
theorem dX7_init_15 : decode cX7_init 15 = .ok (.iconst 0, 1) := by decide +kernel
theorem dX7_init_16 : decode cX7_init 16 = .ok (.putfield 18, 3) := by decide +kernel
theorem dX7_init_19 : decode cX7_init 19 = .ok (.aload_n 0, 1) := by decide +kernel
theorem dX7_init_20 : decode cX7_init 20 = .ok (.aconst_null, 1) := by decide +kernel
theorem dX7_init_21 : decode cX7_init 21 = .ok (.putfield 21, 3) := by decide +kernel
theorem dX7_init_24 : decode cX7_init 24 = .ok (.aload_n 0, 1) := by decide +kernel
theorem dX7_init_25 : decode cX7_init 25 = .ok (.iconst 0, 1) := by decide +kernel
theorem dX7_init_26 : decode cX7_init 26 = .ok (.putfield 25, 3) := by decide +kernel
theorem dX7_init_29 : decode cX7_init 29 = .ok (.aload_n 0, 1) := by decide +kernel
theorem dX7_init_30 : decode cX7_init 30 = .ok (.iconst 0, 1) := by decide +kernel
theorem dX7_init_31 : decode cX7_init 31 = .ok (.putfield 28, 3) := by decide +kernel
theorem dX7_init_34 : decode cX7_init 34 = .ok (.aload_n 0, 1) := by decide +kernel
theorem dX7_init_35 : decode cX7_init 35 = .ok (.sipush 1001, 3) := by decide +kernel
theorem dX7_init_38 : decode cX7_init 38 = .ok (.newarray .int, 2) := by decide +kernel
theorem dX7_init_40 : decode cX7_init 40 = .ok (.putfield 31, 3) := by decide +kernel
theorem dX7_init_43 : decode cX7_init 43 = .ok (.aload_n 0, 1) := by decide +kernel
theorem dX7_init_44 : decode cX7_init 44 = .ok (.iconst 0, 1) := by decide +kernel
theorem dX7_init_45 : decode cX7_init 45 = .ok (.putfield 34, 3) := by decide +kernel
theorem dX7_init_48 : decode cX7_init 48 = .ok (.aload_n 0, 1) := by decide +kernel
theorem dX7_init_49 : decode cX7_init 49 = .ok (.iconst 0, 1) := by decide +kernel
theorem dX7_init_50 : decode cX7_init 50 = .ok (.putfield 37, 3) := by decide +kernel
theorem dX7_init_53 : decode cX7_init 53 = .ok (.return_, 1) := by decide +kernel
theorem dX7_advance_0 : decode cX7_advance 0 = .ok (.aload_n 0, 1) := by decide +kernel
theorem dX7_advance_1 : decode cX7_advance 1 = .ok (.aload_n 0, 1) := by decide +kernel
theorem dX7_advance_2 : decode cX7_advance 2 = .ok (.getfield 37, 3) := by decide +kernel
theorem dX7_advance_5 : decode cX7_advance 5 = .ok (.iconst 1, 1) := by decide +kernel
theorem dX7_advance_6 : decode cX7_advance 6 = .ok (.iadd, 1) := by decide +kernel
theorem dX7_advance_7 : decode cX7_advance 7 = .ok (.aload_n 0, 1) := by decide +kernel
theorem dX7_advance_8 : decode cX7_advance 8 = .ok (.getfield 34, 3) := by decide +kernel
theorem dX7_advance_11 : decode cX7_advance 11 = .ok (.invokestatic 40, 3) := by decide +kernel
theorem dX7_advance_14 : decode cX7_advance 14 = .ok (.putfield 37, 3) := by decide +kernel
theorem dX7_advance_17 : decode cX7_advance 17 = .ok (.aload_n 0, 1) := by decide +kernel
theorem dX7_advance_18 : decode cX7_advance 18 = .ok (.getfield 37, 3) := by decide +kernel
theorem dX7_advance_21 : decode cX7_advance 21 = .ok (.ifCond .lt 26, 3) := by decide +kernel
theorem dX7_advance_24 : decode cX7_advance 24 = .ok (.aload_n 0, 1) := by decide +kernel
theorem dX7_advance_25 : decode cX7_advance 25 = .ok (.getfield 37, 3) := by decide +kernel
theorem dX7_advance_28 : decode cX7_advance 28 = .ok (.aload_n 0, 1) := by decide +kernel
theorem dX7_advance_29 : decode cX7_advance 29 = .ok (.getfield 34, 3) := by decide +kernel
theorem dX7_advance_32 : decode cX7_advance 32 = .ok (.if_icmp .ge 15, 3) := by decide +kernel
theorem dX7_advance_35 : decode cX7_advance 35 = .ok (.aload_n 0, 1) := by decide +kernel
theorem dX7_advance_36 : decode cX7_advance 36 = .ok (.getfield 37, 3) := by decide +kernel
theorem dX7_advance_39 : decode cX7_advance 39 = .ok (.aload_n 0, 1) := by decide +kernel
theorem dX7_advance_40 : decode cX7_advance 40 = .ok (.getfield 31, 3) := by decide +kernel
theorem dX7_advance_43 : decode cX7_advance 43 = .ok (.arraylength, 1) := by decide +kernel
theorem dX7_advance_44 : decode cX7_advance 44 = .ok (.if_icmp .lt 22, 3) := by decide +kernel
theorem dX7_advance_47 : decode cX7_advance 47 = .ok (.aload_n 0, 1) := by decide +kernel
theorem dX7_advance_48 : decode cX7_advance 48 = .ok (.iconst 0, 1) := by decide +kernel
theorem dX7_advance_49 : decode cX7_advance 49 = .ok (.putfield 11, 3) := by decide +kernel
theorem dX7_advance_52 : decode cX7_advance 52 = .ok (.aload_n 0, 1) := by decide +kernel
theorem dX7_advance_53 : decode cX7_advance 53 = .ok (.iconst (-1), 1) := by decide +kernel
theorem dX7_advance_54 : decode cX7_advance 54 = .ok (.putfield 15, 3) := by decide +kernel
theorem dX7_advance_57 : decode cX7_advance 57 = .ok (.aload_n 0, 1) := by decide +kernel
theorem dX7_advance_58 : decode cX7_advance 58 = .ok (.aload_n 0, 1) := by decide +kernel
theorem dX7_advance_59 : decode cX7_advance 59 = .ok (.getfield 25, 3) := by decide +kernel
theorem dX7_advance_62 : decode cX7_advance 62 = .ok (.putfield 18, 3) := by decide +kernel
theorem dX7_advance_65 : decode cX7_advance 65 = .ok (.return_, 1) := by decide +kernel
theorem dX7_advance_66 : decode cX7_advance 66 = .ok (.aload_n 0, 1) := by decide +kernel
theorem dX7_advance_67 : decode cX7_advance 67 = .ok (.aload_n 0, 1) := by decide +kernel
theorem dX7_advance_68 : decode cX7_advance 68 = .ok (.getfield 31, 3) := by decide +kernel
theorem dX7_advance_71 : decode cX7_advance 71 = .ok (.aload_n 0, 1) := by decide +kernel
theorem dX7_advance_72 : decode cX7_advance 72 = .ok (.getfield 37, 3) := by decide +kernel
theorem dX7_advance_75 : decode cX7_advance 75 = .ok (.iaload, 1) := by decide +kernel
theorem dX7_advance_76 : decode cX7_advance 76 = .ok (.sipush 255, 3) := by decide +kernel
theorem dX7_advance_79 : decode cX7_advance 79 = .ok (.iand, 1) := by decide +kernel
theorem dX7_advance_80 : decode cX7_advance 80 = .ok (.putfield 11, 3) := by decide +kernel
theorem dX7_advance_83 : decode cX7_advance 83 = .ok (.aload_n 0, 1) := by decide +kernel
theorem dX7_advance_84 : decode cX7_advance 84 = .ok (.aload_n 0, 1) := by decide +kernel
theorem dX7_advance_85 : decode cX7_advance 85 = .ok (.getfield 31, 3) := by decide +kernel
theorem dX7_advance_88 : decode cX7_advance 88 = .ok (.aload_n 0, 1) := by decide +kernel
theorem dX7_advance_89 : decode cX7_advance 89 = .ok (.getfield 37, 3) := by decide +kernel
theorem dX7_advance_92 : decode cX7_advance 92 = .ok (.iaload, 1) := by decide +kernel
theorem dX7_advance_93 : decode cX7_advance 93 = .ok (.bipush 8, 2) := by decide +kernel
theorem dX7_advance_95 : decode cX7_advance 95 = .ok (.ishr, 1) := by decide +kernel
theorem dX7_advance_96 : decode cX7_advance 96 = .ok (.sipush 255, 3) := by decide +kernel
theorem dX7_advance_99 : decode cX7_advance 99 = .ok (.iand, 1) := by decide +kernel
theorem dX7_advance_100 : decode cX7_advance 100 = .ok (.iconst 1, 1) := by decide +kernel
theorem dX7_advance_101 : decode cX7_advance 101 = .ok (.isub, 1) := by decide +kernel
theorem dX7_advance_102 : decode cX7_advance 102 = .ok (.putfield 15, 3) := by decide +kernel
theorem dX7_advance_105 : decode cX7_advance 105 = .ok (.aload_n 0, 1) := by decide +kernel
theorem dX7_advance_106 : decode cX7_advance 106 = .ok (.aload_n 0, 1) := by decide +kernel
theorem dX7_advance_107 : decode cX7_advance 107 = .ok (.getfield 31, 3) := by decide +kernel
theorem dX7_advance_110 : decode cX7_advance 110 = .ok (.aload_n 0, 1) := by decide +kernel
theorem dX7_advance_111 : decode cX7_advance 111 = .ok (.getfield 37, 3) := by decide +kernel
theorem dX7_advance_114 : decode cX7_advance 114 = .ok (.iaload, 1) := by decide +kernel
theorem dX7_advance_115 : decode cX7_advance 115 = .ok (.bipush 16, 2) := by decide +kernel
theorem dX7_advance_117 : decode cX7_advance 117 = .ok (.ishr, 1) := by decide +kernel
theorem dX7_advance_118 : decode cX7_advance 118 = .ok (.putfield 18, 3) := by decide +kernel
theorem dX7_advance_121 : decode cX7_advance 121 = .ok (.return_, 1) := by decide +kernel
theorem dX7_isWordSign_0 : decode cX7_isWordSign 0 = .ok (.iload_n 0, 1) := by decide +kernel
theorem dX7_isWordSign_1 : decode cX7_isWordSign 1 = .ok (.bipush 97, 2) := by decide +kernel
theorem dX7_isWordSign_3 : decode cX7_isWordSign 3 = .ok (.if_icmp .lt 9, 3) := by decide +kernel
theorem dX7_isWordSign_6 : decode cX7_isWordSign 6 = .ok (.iload_n 0, 1) := by decide +kernel
theorem dX7_isWordSign_7 : decode cX7_isWordSign 7 = .ok (.bipush 122, 2) := by decide +kernel
theorem dX7_isWordSign_9 : decode cX7_isWordSign 9 = .ok (.if_icmp .le 27, 3) := by decide +kernel
theorem dX7_isWordSign_12 : decode cX7_isWordSign 12 = .ok (.iload_n 0, 1) := by decide +kernel
theorem dX7_isWordSign_13 : decode cX7_isWordSign 13 = .ok (.bipush 65, 2) := by decide +kernel
theorem dX7_isWordSign_15 : decode cX7_isWordSign 15 = .ok (.if_icmp .lt 9, 3) := by decide +kernel
theorem dX7_isWordSign_18 : decode cX7_isWordSign 18 = .ok (.iload_n 0, 1) := by decide +kernel
theorem dX7_isWordSign_19 : decode cX7_isWordSign 19 = .ok (.bipush 90, 2) := by decide +kernel
theorem dX7_isWordSign_21 : decode cX7_isWordSign 21 = .ok (.if_icmp .le 15, 3) := by decide +kernel
theorem dX7_isWordSign_24 : decode cX7_isWordSign 24 = .ok (.iload_n 0, 1) := by decide +kernel
theorem dX7_isWordSign_25 : decode cX7_isWordSign 25 = .ok (.bipush 48, 2) := by decide +kernel
theorem dX7_isWordSign_27 : decode cX7_isWordSign 27 = .ok (.if_icmp .lt 13, 3) := by decide +kernel
theorem dX7_isWordSign_30 : decode cX7_isWordSign 30 = .ok (.iload_n 0, 1) := by decide +kernel
theorem dX7_isWordSign_31 : decode cX7_isWordSign 31 = .ok (.bipush 57, 2) := by decide +kernel
theorem dX7_isWordSign_33 : decode cX7_isWordSign 33 = .ok (.if_icmp .gt 7, 3) := by decide +kernel
theorem dX7_isWordSign_36 : decode cX7_isWordSign 36 = .ok (.iconst 1, 1) := by decide +kernel
theorem dX7_isWordSign_37 : decode cX7_isWordSign 37 = .ok (.goto 4, 3) := by decide +kernel
theorem dX7_isWordSign_40 : decode cX7_isWordSign 40 = .ok (.iconst 0, 1) := by decide +kernel
theorem dX7_isWordSign_41 : decode cX7_isWordSign 41 = .ok (.ireturn, 1) := by decide +kernel
theorem dX7_signToken_0 : decode cX7_signToken 0 = .ok (.iload_n 0, 1) := by decide +kernel
theorem dX7_signToken_1 : decode cX7_signToken 1 = .ok (.lookupswitch 77 #[(43, 65), (46, 68), (59, 59), (61, 62), (123, 71), (125, 74)], 59) := by decide +kernel
theorem dX7_signToken_60 : decode cX7_signToken 60 = .ok (.bipush 15, 2) := by decide +kernel
theorem dX7_signToken_62 : decode cX7_signToken 62 = .ok (.ireturn, 1) := by decide +kernel
theorem dX7_signToken_63 : decode cX7_signToken 63 = .ok (.bipush 16, 2) := by decide +kernel
theorem dX7_signToken_65 : decode cX7_signToken 65 = .ok (.ireturn, 1) := by decide +kernel
theorem dX7_signToken_66 : decode cX7_signToken 66 = .ok (.bipush 18, 2) := by decide +kernel
theorem dX7_signToken_68 : decode cX7_signToken 68 = .ok (.ireturn, 1) := by decide +kernel
theorem dX7_signToken_69 : decode cX7_signToken 69 = .ok (.bipush 19, 2) := by decide +kernel
theorem dX7_signToken_71 : decode cX7_signToken 71 = .ok (.ireturn, 1) := by decide +kernel
theorem dX7_signToken_72 : decode cX7_signToken 72 = .ok (.bipush 20, 2) := by decide +kernel
theorem dX7_signToken_74 : decode cX7_signToken 74 = .ok (.ireturn, 1) := by decide +kernel
theorem dX7_signToken_75 : decode cX7_signToken 75 = .ok (.bipush 21, 2) := by decide +kernel
theorem dX7_signToken_77 : decode cX7_signToken 77 = .ok (.ireturn, 1) := by decide +kernel
theorem dX7_signToken_78 : decode cX7_signToken 78 = .ok (.iconst 1, 1) := by decide +kernel
theorem dX7_signToken_79 : decode cX7_signToken 79 = .ok (.ireturn, 1) := by decide +kernel
theorem dX7_scanSign_0 : decode cX7_scanSign 0 = .ok (.aload_n 0, 1) := by decide +kernel
theorem dX7_scanSign_1 : decode cX7_scanSign 1 = .ok (.dup, 1) := by decide +kernel
theorem dX7_scanSign_2 : decode cX7_scanSign 2 = .ok (.getfield 28, 3) := by decide +kernel
theorem dX7_scanSign_5 : decode cX7_scanSign 5 = .ok (.iconst 1, 1) := by decide +kernel
theorem dX7_scanSign_6 : decode cX7_scanSign 6 = .ok (.iadd, 1) := by decide +kernel
theorem dX7_scanSign_7 : decode cX7_scanSign 7 = .ok (.putfield 28, 3) := by decide +kernel
theorem dX7_scanSign_10 : decode cX7_scanSign 10 = .ok (.aload_n 0, 1) := by decide +kernel
theorem dX7_scanSign_11 : decode cX7_scanSign 11 = .ok (.iload_n 1, 1) := by decide +kernel
theorem dX7_scanSign_12 : decode cX7_scanSign 12 = .ok (.invokestatic 103, 3) := by decide +kernel
theorem dX7_scanSign_15 : decode cX7_scanSign 15 = .ok (.putfield 11, 3) := by decide +kernel
theorem dX7_scanSign_18 : decode cX7_scanSign 18 = .ok (.aload_n 0, 1) := by decide +kernel
theorem dX7_scanSign_19 : decode cX7_scanSign 19 = .ok (.getfield 11, 3) := by decide +kernel
theorem dX7_scanSign_22 : decode cX7_scanSign 22 = .ok (.bipush 16, 2) := by decide +kernel
theorem dX7_scanSign_24 : decode cX7_scanSign 24 = .ok (.if_icmp .ne 44, 3) := by decide +kernel
theorem dX7_scanSign_27 : decode cX7_scanSign 27 = .ok (.aload_n 0, 1) := by decide +kernel
theorem dX7_scanSign_28 : decode cX7_scanSign 28 = .ok (.getfield 28, 3) := by decide +kernel
theorem dX7_scanSign_31 : decode cX7_scanSign 31 = .ok (.aload_n 0, 1) := by decide +kernel
theorem dX7_scanSign_32 : decode cX7_scanSign 32 = .ok (.getfield 25, 3) := by decide +kernel
theorem dX7_scanSign_35 : decode cX7_scanSign 35 = .ok (.if_icmp .ge 33, 3) := by decide +kernel
theorem dX7_scanSign_38 : decode cX7_scanSign 38 = .ok (.aload_n 0, 1) := by decide +kernel
theorem dX7_scanSign_39 : decode cX7_scanSign 39 = .ok (.getfield 21, 3) := by decide +kernel
theorem dX7_scanSign_42 : decode cX7_scanSign 42 = .ok (.aload_n 0, 1) := by decide +kernel
theorem dX7_scanSign_43 : decode cX7_scanSign 43 = .ok (.getfield 28, 3) := by decide +kernel
theorem dX7_scanSign_46 : decode cX7_scanSign 46 = .ok (.iaload, 1) := by decide +kernel
theorem dX7_scanSign_47 : decode cX7_scanSign 47 = .ok (.bipush 61, 2) := by decide +kernel
theorem dX7_scanSign_49 : decode cX7_scanSign 49 = .ok (.if_icmp .ne 19, 3) := by decide +kernel
theorem dX7_scanSign_52 : decode cX7_scanSign 52 = .ok (.aload_n 0, 1) := by decide +kernel
theorem dX7_scanSign_53 : decode cX7_scanSign 53 = .ok (.dup, 1) := by decide +kernel
theorem dX7_scanSign_54 : decode cX7_scanSign 54 = .ok (.getfield 28, 3) := by decide +kernel
theorem dX7_scanSign_57 : decode cX7_scanSign 57 = .ok (.iconst 1, 1) := by decide +kernel
theorem dX7_scanSign_58 : decode cX7_scanSign 58 = .ok (.iadd, 1) := by decide +kernel
theorem dX7_scanSign_59 : decode cX7_scanSign 59 = .ok (.putfield 28, 3) := by decide +kernel
theorem dX7_scanSign_62 : decode cX7_scanSign 62 = .ok (.aload_n 0, 1) := by decide +kernel
theorem dX7_scanSign_63 : decode cX7_scanSign 63 = .ok (.bipush 17, 2) := by decide +kernel
theorem dX7_scanSign_65 : decode cX7_scanSign 65 = .ok (.putfield 11, 3) := by decide +kernel
theorem dX7_scanSign_68 : decode cX7_scanSign 68 = .ok (.return_, 1) := by decide +kernel
theorem dX7_isWord_0 : decode cX7_isWord 0 = .ok (.aload_n 1, 1) := by decide +kernel
theorem dX7_isWord_1 : decode cX7_isWord 1 = .ok (.invokevirtual 94, 3) := by decide +kernel
theorem dX7_isWord_4 : decode cX7_isWord 4 = .ok (.aload_n 0, 1) := by decide +kernel
theorem dX7_isWord_5 : decode cX7_isWord 5 = .ok (.getfield 28, 3) := by decide +kernel
theorem dX7_isWord_8 : decode cX7_isWord 8 = .ok (.aload_n 0, 1) := by decide +kernel
theorem dX7_isWord_9 : decode cX7_isWord 9 = .ok (.getfield 18, 3) := by decide +kernel
theorem dX7_isWord_12 : decode cX7_isWord 12 = .ok (.isub, 1) := by decide +kernel
theorem dX7_isWord_13 : decode cX7_isWord 13 = .ok (.if_icmp .eq 5, 3) := by decide +kernel
theorem dX7_isWord_16 : decode cX7_isWord 16 = .ok (.iconst 0, 1) := by decide +kernel
theorem dX7_isWord_17 : decode cX7_isWord 17 = .ok (.ireturn, 1) := by decide +kernel
theorem dX7_isWord_18 : decode cX7_isWord 18 = .ok (.iconst 0, 1) := by decide +kernel
theorem dX7_isWord_19 : decode cX7_isWord 19 = .ok (.istore_n 2, 1) := by decide +kernel
theorem dX7_isWord_20 : decode cX7_isWord 20 = .ok (.iload_n 2, 1) := by decide +kernel
theorem dX7_isWord_21 : decode cX7_isWord 21 = .ok (.aload_n 1, 1) := by decide +kernel
theorem dX7_isWord_22 : decode cX7_isWord 22 = .ok (.invokevirtual 94, 3) := by decide +kernel
theorem dX7_isWord_25 : decode cX7_isWord 25 = .ok (.if_icmp .ge 43, 3) := by decide +kernel
theorem dX7_isWord_28 : decode cX7_isWord 28 = .ok (.aload_n 0, 1) := by decide +kernel
theorem dX7_isWord_29 : decode cX7_isWord 29 = .ok (.getfield 18, 3) := by decide +kernel
theorem dX7_isWord_32 : decode cX7_isWord 32 = .ok (.iload_n 2, 1) := by decide +kernel
theorem dX7_isWord_33 : decode cX7_isWord 33 = .ok (.iadd, 1) := by decide +kernel
theorem dX7_isWord_34 : decode cX7_isWord 34 = .ok (.aload_n 0, 1) := by decide +kernel
theorem dX7_isWord_35 : decode cX7_isWord 35 = .ok (.getfield 25, 3) := by decide +kernel
theorem dX7_isWord_38 : decode cX7_isWord 38 = .ok (.if_icmp .ge 30, 3) := by decide +kernel
theorem dX7_isWord_41 : decode cX7_isWord 41 = .ok (.aload_n 0, 1) := by decide +kernel
theorem dX7_isWord_42 : decode cX7_isWord 42 = .ok (.getfield 21, 3) := by decide +kernel
theorem dX7_isWord_45 : decode cX7_isWord 45 = .ok (.aload_n 0, 1) := by decide +kernel
theorem dX7_isWord_46 : decode cX7_isWord 46 = .ok (.getfield 18, 3) := by decide +kernel
theorem dX7_isWord_49 : decode cX7_isWord 49 = .ok (.iload_n 2, 1) := by decide +kernel
theorem dX7_isWord_50 : decode cX7_isWord 50 = .ok (.iadd, 1) := by decide +kernel
theorem dX7_isWord_51 : decode cX7_isWord 51 = .ok (.iaload, 1) := by decide +kernel
theorem dX7_isWord_52 : decode cX7_isWord 52 = .ok (.aload_n 1, 1) := by decide +kernel
theorem dX7_isWord_53 : decode cX7_isWord 53 = .ok (.iload_n 2, 1) := by decide +kernel
theorem dX7_isWord_54 : decode cX7_isWord 54 = .ok (.invokevirtual 99, 3) := by decide +kernel
theorem dX7_isWord_57 : decode cX7_isWord 57 = .ok (.if_icmp .eq 5, 3) := by decide +kernel
theorem dX7_isWord_60 : decode cX7_isWord 60 = .ok (.iconst 0, 1) := by decide +kernel
theorem dX7_isWord_61 : decode cX7_isWord 61 = .ok (.ireturn, 1) := by decide +kernel
theorem dX7_isWord_62 : decode cX7_isWord 62 = .ok (.iinc 2 1, 3) := by decide +kernel
theorem dX7_isWord_65 : decode cX7_isWord 65 = .ok (.goto (-45), 3) := by decide +kernel
theorem dX7_isWord_68 : decode cX7_isWord 68 = .ok (.iconst 1, 1) := by decide +kernel
theorem dX7_isWord_69 : decode cX7_isWord 69 = .ok (.ireturn, 1) := by decide +kernel
theorem dX7_longWord_0 : decode cX7_longWord 0 = .ok (.aload_n 0, 1) := by decide +kernel
theorem dX7_longWord_1 : decode cX7_longWord 1 = .ok (.ldc 74, 2) := by decide +kernel
theorem dX7_longWord_3 : decode cX7_longWord 3 = .ok (.invokevirtual 76, 3) := by decide +kernel
theorem dX7_longWord_6 : decode cX7_longWord 6 = .ok (.ifCond .eq 5, 3) := by decide +kernel
theorem dX7_longWord_9 : decode cX7_longWord 9 = .ok (.iconst 2, 1) := by decide +kernel
theorem dX7_longWord_10 : decode cX7_longWord 10 = .ok (.ireturn, 1) := by decide +kernel
theorem dX7_longWord_11 : decode cX7_longWord 11 = .ok (.aload_n 0, 1) := by decide +kernel
theorem dX7_longWord_12 : decode cX7_longWord 12 = .ok (.ldc 80, 2) := by decide +kernel
theorem dX7_longWord_14 : decode cX7_longWord 14 = .ok (.invokevirtual 76, 3) := by decide +kernel
theorem dX7_longWord_17 : decode cX7_longWord 17 = .ok (.ifCond .eq 5, 3) := by decide +kernel
theorem dX7_longWord_20 : decode cX7_longWord 20 = .ok (.iconst 3, 1) := by decide +kernel
theorem dX7_longWord_21 : decode cX7_longWord 21 = .ok (.ireturn, 1) := by decide +kernel
theorem dX7_longWord_22 : decode cX7_longWord 22 = .ok (.aload_n 0, 1) := by decide +kernel
theorem dX7_longWord_23 : decode cX7_longWord 23 = .ok (.ldc 82, 2) := by decide +kernel
theorem dX7_longWord_25 : decode cX7_longWord 25 = .ok (.invokevirtual 76, 3) := by decide +kernel
theorem dX7_longWord_28 : decode cX7_longWord 28 = .ok (.ifCond .eq 5, 3) := by decide +kernel
theorem dX7_longWord_31 : decode cX7_longWord 31 = .ok (.iconst 4, 1) := by decide +kernel
theorem dX7_longWord_32 : decode cX7_longWord 32 = .ok (.ireturn, 1) := by decide +kernel
theorem dX7_longWord_33 : decode cX7_longWord 33 = .ok (.aload_n 0, 1) := by decide +kernel
theorem dX7_longWord_34 : decode cX7_longWord 34 = .ok (.ldc 84, 2) := by decide +kernel
theorem dX7_longWord_36 : decode cX7_longWord 36 = .ok (.invokevirtual 76, 3) := by decide +kernel
theorem dX7_longWord_39 : decode cX7_longWord 39 = .ok (.ifCond .eq 5, 3) := by decide +kernel
theorem dX7_longWord_42 : decode cX7_longWord 42 = .ok (.iconst 5, 1) := by decide +kernel
theorem dX7_longWord_43 : decode cX7_longWord 43 = .ok (.ireturn, 1) := by decide +kernel
theorem dX7_longWord_44 : decode cX7_longWord 44 = .ok (.aload_n 0, 1) := by decide +kernel
theorem dX7_longWord_45 : decode cX7_longWord 45 = .ok (.ldc 86, 2) := by decide +kernel
theorem dX7_longWord_47 : decode cX7_longWord 47 = .ok (.invokevirtual 76, 3) := by decide +kernel
theorem dX7_longWord_50 : decode cX7_longWord 50 = .ok (.ifCond .eq 6, 3) := by decide +kernel
theorem dX7_longWord_53 : decode cX7_longWord 53 = .ok (.bipush 6, 2) := by decide +kernel
theorem dX7_longWord_55 : decode cX7_longWord 55 = .ok (.ireturn, 1) := by decide +kernel
theorem dX7_longWord_56 : decode cX7_longWord 56 = .ok (.aload_n 0, 1) := by decide +kernel
theorem dX7_longWord_57 : decode cX7_longWord 57 = .ok (.ldc 88, 2) := by decide +kernel
theorem dX7_longWord_59 : decode cX7_longWord 59 = .ok (.invokevirtual 76, 3) := by decide +kernel
theorem dX7_longWord_62 : decode cX7_longWord 62 = .ok (.ifCond .eq 6, 3) := by decide +kernel
theorem dX7_longWord_65 : decode cX7_longWord 65 = .ok (.bipush 7, 2) := by decide +kernel
theorem dX7_longWord_67 : decode cX7_longWord 67 = .ok (.ireturn, 1) := by decide +kernel
theorem dX7_longWord_68 : decode cX7_longWord 68 = .ok (.aload_n 0, 1) := by decide +kernel
theorem dX7_longWord_69 : decode cX7_longWord 69 = .ok (.ldc 90, 2) := by decide +kernel
theorem dX7_longWord_71 : decode cX7_longWord 71 = .ok (.invokevirtual 76, 3) := by decide +kernel
theorem dX7_longWord_74 : decode cX7_longWord 74 = .ok (.ifCond .eq 6, 3) := by decide +kernel
theorem dX7_longWord_77 : decode cX7_longWord 77 = .ok (.bipush 8, 2) := by decide +kernel
theorem dX7_longWord_79 : decode cX7_longWord 79 = .ok (.ireturn, 1) := by decide +kernel
theorem dX7_longWord_80 : decode cX7_longWord 80 = .ok (.aload_n 0, 1) := by decide +kernel
theorem dX7_longWord_81 : decode cX7_longWord 81 = .ok (.ldc 92, 2) := by decide +kernel
theorem dX7_longWord_83 : decode cX7_longWord 83 = .ok (.invokevirtual 76, 3) := by decide +kernel
theorem dX7_longWord_86 : decode cX7_longWord 86 = .ok (.ifCond .eq 8, 3) := by decide +kernel
theorem dX7_longWord_89 : decode cX7_longWord 89 = .ok (.bipush 10, 2) := by decide +kernel
theorem dX7_longWord_91 : decode cX7_longWord 91 = .ok (.goto 4, 3) := by decide +kernel
theorem dX7_longWord_94 : decode cX7_longWord 94 = .ok (.iconst 1, 1) := by decide +kernel
theorem dX7_longWord_95 : decode cX7_longWord 95 = .ok (.ireturn, 1) := by decide +kernel
theorem dX7_nameOfOne_0 : decode cX7_nameOfOne 0 = .ok (.iload_n 1, 1) := by decide +kernel
theorem dX7_nameOfOne_1 : decode cX7_nameOfOne 1 = .ok (.bipush 48, 2) := by decide +kernel
theorem dX7_nameOfOne_3 : decode cX7_nameOfOne 3 = .ok (.if_icmp .lt 20, 3) := by decide +kernel
theorem dX7_nameOfOne_6 : decode cX7_nameOfOne 6 = .ok (.iload_n 1, 1) := by decide +kernel
theorem dX7_nameOfOne_7 : decode cX7_nameOfOne 7 = .ok (.bipush 57, 2) := by decide +kernel
theorem dX7_nameOfOne_9 : decode cX7_nameOfOne 9 = .ok (.if_icmp .gt 14, 3) := by decide +kernel
theorem dX7_nameOfOne_12 : decode cX7_nameOfOne 12 = .ok (.aload_n 0, 1) := by decide +kernel
theorem dX7_nameOfOne_13 : decode cX7_nameOfOne 13 = .ok (.iload_n 1, 1) := by decide +kernel
theorem dX7_nameOfOne_14 : decode cX7_nameOfOne 14 = .ok (.bipush 48, 2) := by decide +kernel
theorem dX7_nameOfOne_16 : decode cX7_nameOfOne 16 = .ok (.isub, 1) := by decide +kernel
theorem dX7_nameOfOne_17 : decode cX7_nameOfOne 17 = .ok (.putfield 15, 3) := by decide +kernel
theorem dX7_nameOfOne_20 : decode cX7_nameOfOne 20 = .ok (.bipush 14, 2) := by decide +kernel
theorem dX7_nameOfOne_22 : decode cX7_nameOfOne 22 = .ok (.ireturn, 1) := by decide +kernel
theorem dX7_nameOfOne_23 : decode cX7_nameOfOne 23 = .ok (.iload_n 1, 1) := by decide +kernel
theorem dX7_nameOfOne_24 : decode cX7_nameOfOne 24 = .ok (.bipush 117, 2) := by decide +kernel
theorem dX7_nameOfOne_26 : decode cX7_nameOfOne 26 = .ok (.if_icmp .lt 20, 3) := by decide +kernel
theorem dX7_nameOfOne_29 : decode cX7_nameOfOne 29 = .ok (.iload_n 1, 1) := by decide +kernel
theorem dX7_nameOfOne_30 : decode cX7_nameOfOne 30 = .ok (.bipush 122, 2) := by decide +kernel
theorem dX7_nameOfOne_32 : decode cX7_nameOfOne 32 = .ok (.if_icmp .gt 14, 3) := by decide +kernel
theorem dX7_nameOfOne_35 : decode cX7_nameOfOne 35 = .ok (.aload_n 0, 1) := by decide +kernel
theorem dX7_nameOfOne_36 : decode cX7_nameOfOne 36 = .ok (.iload_n 1, 1) := by decide +kernel
theorem dX7_nameOfOne_37 : decode cX7_nameOfOne 37 = .ok (.bipush 117, 2) := by decide +kernel
theorem dX7_nameOfOne_39 : decode cX7_nameOfOne 39 = .ok (.isub, 1) := by decide +kernel
theorem dX7_nameOfOne_40 : decode cX7_nameOfOne 40 = .ok (.putfield 15, 3) := by decide +kernel
theorem dX7_nameOfOne_43 : decode cX7_nameOfOne 43 = .ok (.bipush 11, 2) := by decide +kernel
theorem dX7_nameOfOne_45 : decode cX7_nameOfOne 45 = .ok (.ireturn, 1) := by decide +kernel
theorem dX7_nameOfOne_46 : decode cX7_nameOfOne 46 = .ok (.iconst 1, 1) := by decide +kernel
theorem dX7_nameOfOne_47 : decode cX7_nameOfOne 47 = .ok (.ireturn, 1) := by decide +kernel
theorem dX7_nameOfTwo_0 : decode cX7_nameOfTwo 0 = .ok (.iload_n 2, 1) := by decide +kernel
theorem dX7_nameOfTwo_1 : decode cX7_nameOfTwo 1 = .ok (.bipush 48, 2) := by decide +kernel
theorem dX7_nameOfTwo_3 : decode cX7_nameOfTwo 3 = .ok (.isub, 1) := by decide +kernel
theorem dX7_nameOfTwo_4 : decode cX7_nameOfTwo 4 = .ok (.istore_n 3, 1) := by decide +kernel
theorem dX7_nameOfTwo_5 : decode cX7_nameOfTwo 5 = .ok (.iload_n 1, 1) := by decide +kernel
theorem dX7_nameOfTwo_6 : decode cX7_nameOfTwo 6 = .ok (.bipush 114, 2) := by decide +kernel
theorem dX7_nameOfTwo_8 : decode cX7_nameOfTwo 8 = .ok (.if_icmp .ne 20, 3) := by decide +kernel
theorem dX7_nameOfTwo_11 : decode cX7_nameOfTwo 11 = .ok (.iload_n 3, 1) := by decide +kernel
theorem dX7_nameOfTwo_12 : decode cX7_nameOfTwo 12 = .ok (.ifCond .lt 16, 3) := by decide +kernel
theorem dX7_nameOfTwo_15 : decode cX7_nameOfTwo 15 = .ok (.iload_n 3, 1) := by decide +kernel
theorem dX7_nameOfTwo_16 : decode cX7_nameOfTwo 16 = .ok (.iconst 5, 1) := by decide +kernel
theorem dX7_nameOfTwo_17 : decode cX7_nameOfTwo 17 = .ok (.if_icmp .ge 11, 3) := by decide +kernel
theorem dX7_nameOfTwo_20 : decode cX7_nameOfTwo 20 = .ok (.aload_n 0, 1) := by decide +kernel
theorem dX7_nameOfTwo_21 : decode cX7_nameOfTwo 21 = .ok (.iload_n 3, 1) := by decide +kernel
theorem dX7_nameOfTwo_22 : decode cX7_nameOfTwo 22 = .ok (.putfield 15, 3) := by decide +kernel
theorem dX7_nameOfTwo_25 : decode cX7_nameOfTwo 25 = .ok (.bipush 12, 2) := by decide +kernel
theorem dX7_nameOfTwo_27 : decode cX7_nameOfTwo 27 = .ok (.ireturn, 1) := by decide +kernel
theorem dX7_nameOfTwo_28 : decode cX7_nameOfTwo 28 = .ok (.iload_n 1, 1) := by decide +kernel
theorem dX7_nameOfTwo_29 : decode cX7_nameOfTwo 29 = .ok (.bipush 109, 2) := by decide +kernel
theorem dX7_nameOfTwo_31 : decode cX7_nameOfTwo 31 = .ok (.if_icmp .ne 20, 3) := by decide +kernel
theorem dX7_nameOfTwo_34 : decode cX7_nameOfTwo 34 = .ok (.iload_n 3, 1) := by decide +kernel
theorem dX7_nameOfTwo_35 : decode cX7_nameOfTwo 35 = .ok (.ifCond .lt 16, 3) := by decide +kernel
theorem dX7_nameOfTwo_38 : decode cX7_nameOfTwo 38 = .ok (.iload_n 3, 1) := by decide +kernel
theorem dX7_nameOfTwo_39 : decode cX7_nameOfTwo 39 = .ok (.iconst 2, 1) := by decide +kernel
theorem dX7_nameOfTwo_40 : decode cX7_nameOfTwo 40 = .ok (.if_icmp .ge 11, 3) := by decide +kernel
theorem dX7_nameOfTwo_43 : decode cX7_nameOfTwo 43 = .ok (.aload_n 0, 1) := by decide +kernel
theorem dX7_nameOfTwo_44 : decode cX7_nameOfTwo 44 = .ok (.iload_n 3, 1) := by decide +kernel
theorem dX7_nameOfTwo_45 : decode cX7_nameOfTwo 45 = .ok (.putfield 15, 3) := by decide +kernel
theorem dX7_nameOfTwo_48 : decode cX7_nameOfTwo 48 = .ok (.bipush 13, 2) := by decide +kernel
theorem dX7_nameOfTwo_50 : decode cX7_nameOfTwo 50 = .ok (.ireturn, 1) := by decide +kernel
theorem dX7_nameOfTwo_51 : decode cX7_nameOfTwo 51 = .ok (.iload_n 1, 1) := by decide +kernel
theorem dX7_nameOfTwo_52 : decode cX7_nameOfTwo 52 = .ok (.bipush 105, 2) := by decide +kernel
theorem dX7_nameOfTwo_54 : decode cX7_nameOfTwo 54 = .ok (.if_icmp .ne 14, 3) := by decide +kernel
theorem dX7_nameOfTwo_57 : decode cX7_nameOfTwo 57 = .ok (.iload_n 2, 1) := by decide +kernel
theorem dX7_nameOfTwo_58 : decode cX7_nameOfTwo 58 = .ok (.bipush 102, 2) := by decide +kernel
theorem dX7_nameOfTwo_60 : decode cX7_nameOfTwo 60 = .ok (.if_icmp .ne 8, 3) := by decide +kernel
theorem dX7_nameOfTwo_63 : decode cX7_nameOfTwo 63 = .ok (.bipush 9, 2) := by decide +kernel
theorem dX7_nameOfTwo_65 : decode cX7_nameOfTwo 65 = .ok (.goto 4, 3) := by decide +kernel
theorem dX7_nameOfTwo_68 : decode cX7_nameOfTwo 68 = .ok (.iconst 1, 1) := by decide +kernel
theorem dX7_nameOfTwo_69 : decode cX7_nameOfTwo 69 = .ok (.ireturn, 1) := by decide +kernel
theorem dX7_scanWord_0 : decode cX7_scanWord 0 = .ok (.aload_n 0, 1) := by decide +kernel
theorem dX7_scanWord_1 : decode cX7_scanWord 1 = .ok (.getfield 28, 3) := by decide +kernel
theorem dX7_scanWord_4 : decode cX7_scanWord 4 = .ok (.aload_n 0, 1) := by decide +kernel
theorem dX7_scanWord_5 : decode cX7_scanWord 5 = .ok (.getfield 25, 3) := by decide +kernel
theorem dX7_scanWord_8 : decode cX7_scanWord 8 = .ok (.if_icmp .ge 31, 3) := by decide +kernel
theorem dX7_scanWord_11 : decode cX7_scanWord 11 = .ok (.aload_n 0, 1) := by decide +kernel
theorem dX7_scanWord_12 : decode cX7_scanWord 12 = .ok (.getfield 21, 3) := by decide +kernel
theorem dX7_scanWord_15 : decode cX7_scanWord 15 = .ok (.aload_n 0, 1) := by decide +kernel
theorem dX7_scanWord_16 : decode cX7_scanWord 16 = .ok (.getfield 28, 3) := by decide +kernel
theorem dX7_scanWord_19 : decode cX7_scanWord 19 = .ok (.iaload, 1) := by decide +kernel
theorem dX7_scanWord_20 : decode cX7_scanWord 20 = .ok (.invokestatic 52, 3) := by decide +kernel
theorem dX7_scanWord_23 : decode cX7_scanWord 23 = .ok (.ifCond .eq 16, 3) := by decide +kernel
theorem dX7_scanWord_26 : decode cX7_scanWord 26 = .ok (.aload_n 0, 1) := by decide +kernel
theorem dX7_scanWord_27 : decode cX7_scanWord 27 = .ok (.dup, 1) := by decide +kernel
theorem dX7_scanWord_28 : decode cX7_scanWord 28 = .ok (.getfield 28, 3) := by decide +kernel
theorem dX7_scanWord_31 : decode cX7_scanWord 31 = .ok (.iconst 1, 1) := by decide +kernel
theorem dX7_scanWord_32 : decode cX7_scanWord 32 = .ok (.iadd, 1) := by decide +kernel
theorem dX7_scanWord_33 : decode cX7_scanWord 33 = .ok (.putfield 28, 3) := by decide +kernel
theorem dX7_scanWord_36 : decode cX7_scanWord 36 = .ok (.goto (-36), 3) := by decide +kernel
theorem dX7_scanWord_39 : decode cX7_scanWord 39 = .ok (.aload_n 0, 1) := by decide +kernel
theorem dX7_scanWord_40 : decode cX7_scanWord 40 = .ok (.getfield 28, 3) := by decide +kernel
theorem dX7_scanWord_43 : decode cX7_scanWord 43 = .ok (.aload_n 0, 1) := by decide +kernel
theorem dX7_scanWord_44 : decode cX7_scanWord 44 = .ok (.getfield 18, 3) := by decide +kernel
theorem dX7_scanWord_47 : decode cX7_scanWord 47 = .ok (.isub, 1) := by decide +kernel
theorem dX7_scanWord_48 : decode cX7_scanWord 48 = .ok (.lookupswitch 96 #[(1, 28), (2, 48)], 28) := by decide +kernel
theorem dX7_scanWord_76 : decode cX7_scanWord 76 = .ok (.aload_n 0, 1) := by decide +kernel
theorem dX7_scanWord_77 : decode cX7_scanWord 77 = .ok (.aload_n 0, 1) := by decide +kernel
theorem dX7_scanWord_78 : decode cX7_scanWord 78 = .ok (.aload_n 0, 1) := by decide +kernel
theorem dX7_scanWord_79 : decode cX7_scanWord 79 = .ok (.getfield 21, 3) := by decide +kernel
theorem dX7_scanWord_82 : decode cX7_scanWord 82 = .ok (.aload_n 0, 1) := by decide +kernel
theorem dX7_scanWord_83 : decode cX7_scanWord 83 = .ok (.getfield 18, 3) := by decide +kernel
theorem dX7_scanWord_86 : decode cX7_scanWord 86 = .ok (.iaload, 1) := by decide +kernel
theorem dX7_scanWord_87 : decode cX7_scanWord 87 = .ok (.invokevirtual 63, 3) := by decide +kernel
theorem dX7_scanWord_90 : decode cX7_scanWord 90 = .ok (.putfield 11, 3) := by decide +kernel
theorem dX7_scanWord_93 : decode cX7_scanWord 93 = .ok (.goto 59, 3) := by decide +kernel
theorem dX7_scanWord_96 : decode cX7_scanWord 96 = .ok (.aload_n 0, 1) := by decide +kernel
theorem dX7_scanWord_97 : decode cX7_scanWord 97 = .ok (.aload_n 0, 1) := by decide +kernel
theorem dX7_scanWord_98 : decode cX7_scanWord 98 = .ok (.getfield 18, 3) := by decide +kernel
theorem dX7_scanWord_101 : decode cX7_scanWord 101 = .ok (.iconst 1, 1) := by decide +kernel
theorem dX7_scanWord_102 : decode cX7_scanWord 102 = .ok (.iadd, 1) := by decide +kernel
theorem dX7_scanWord_103 : decode cX7_scanWord 103 = .ok (.aload_n 0, 1) := by decide +kernel
theorem dX7_scanWord_104 : decode cX7_scanWord 104 = .ok (.getfield 25, 3) := by decide +kernel
theorem dX7_scanWord_107 : decode cX7_scanWord 107 = .ok (.if_icmp .ge 30, 3) := by decide +kernel
theorem dX7_scanWord_110 : decode cX7_scanWord 110 = .ok (.aload_n 0, 1) := by decide +kernel
theorem dX7_scanWord_111 : decode cX7_scanWord 111 = .ok (.aload_n 0, 1) := by decide +kernel
theorem dX7_scanWord_112 : decode cX7_scanWord 112 = .ok (.getfield 21, 3) := by decide +kernel
theorem dX7_scanWord_115 : decode cX7_scanWord 115 = .ok (.aload_n 0, 1) := by decide +kernel
theorem dX7_scanWord_116 : decode cX7_scanWord 116 = .ok (.getfield 18, 3) := by decide +kernel
theorem dX7_scanWord_119 : decode cX7_scanWord 119 = .ok (.iaload, 1) := by decide +kernel
theorem dX7_scanWord_120 : decode cX7_scanWord 120 = .ok (.aload_n 0, 1) := by decide +kernel
theorem dX7_scanWord_121 : decode cX7_scanWord 121 = .ok (.getfield 21, 3) := by decide +kernel
theorem dX7_scanWord_124 : decode cX7_scanWord 124 = .ok (.aload_n 0, 1) := by decide +kernel
theorem dX7_scanWord_125 : decode cX7_scanWord 125 = .ok (.getfield 18, 3) := by decide +kernel
theorem dX7_scanWord_128 : decode cX7_scanWord 128 = .ok (.iconst 1, 1) := by decide +kernel
theorem dX7_scanWord_129 : decode cX7_scanWord 129 = .ok (.iadd, 1) := by decide +kernel
theorem dX7_scanWord_130 : decode cX7_scanWord 130 = .ok (.iaload, 1) := by decide +kernel
theorem dX7_scanWord_131 : decode cX7_scanWord 131 = .ok (.invokevirtual 67, 3) := by decide +kernel
theorem dX7_scanWord_134 : decode cX7_scanWord 134 = .ok (.goto 4, 3) := by decide +kernel
theorem dX7_scanWord_137 : decode cX7_scanWord 137 = .ok (.iconst 1, 1) := by decide +kernel
theorem dX7_scanWord_138 : decode cX7_scanWord 138 = .ok (.putfield 11, 3) := by decide +kernel
theorem dX7_scanWord_141 : decode cX7_scanWord 141 = .ok (.goto 11, 3) := by decide +kernel
theorem dX7_scanWord_144 : decode cX7_scanWord 144 = .ok (.aload_n 0, 1) := by decide +kernel
theorem dX7_scanWord_145 : decode cX7_scanWord 145 = .ok (.aload_n 0, 1) := by decide +kernel
theorem dX7_scanWord_146 : decode cX7_scanWord 146 = .ok (.invokevirtual 70, 3) := by decide +kernel
theorem dX7_scanWord_149 : decode cX7_scanWord 149 = .ok (.putfield 11, 3) := by decide +kernel
theorem dX7_scanWord_152 : decode cX7_scanWord 152 = .ok (.return_, 1) := by decide +kernel
theorem dX7_scanToken_0 : decode cX7_scanToken 0 = .ok (.aload_n 0, 1) := by decide +kernel
theorem dX7_scanToken_1 : decode cX7_scanToken 1 = .ok (.aload_n 0, 1) := by decide +kernel
theorem dX7_scanToken_2 : decode cX7_scanToken 2 = .ok (.getfield 28, 3) := by decide +kernel
theorem dX7_scanToken_5 : decode cX7_scanToken 5 = .ok (.putfield 18, 3) := by decide +kernel
theorem dX7_scanToken_8 : decode cX7_scanToken 8 = .ok (.aload_n 0, 1) := by decide +kernel
theorem dX7_scanToken_9 : decode cX7_scanToken 9 = .ok (.iconst (-1), 1) := by decide +kernel
theorem dX7_scanToken_10 : decode cX7_scanToken 10 = .ok (.putfield 15, 3) := by decide +kernel
theorem dX7_scanToken_13 : decode cX7_scanToken 13 = .ok (.aload_n 0, 1) := by decide +kernel
theorem dX7_scanToken_14 : decode cX7_scanToken 14 = .ok (.getfield 21, 3) := by decide +kernel
theorem dX7_scanToken_17 : decode cX7_scanToken 17 = .ok (.aload_n 0, 1) := by decide +kernel
theorem dX7_scanToken_18 : decode cX7_scanToken 18 = .ok (.getfield 28, 3) := by decide +kernel
theorem dX7_scanToken_21 : decode cX7_scanToken 21 = .ok (.iaload, 1) := by decide +kernel
theorem dX7_scanToken_22 : decode cX7_scanToken 22 = .ok (.invokestatic 52, 3) := by decide +kernel
theorem dX7_scanToken_25 : decode cX7_scanToken 25 = .ok (.ifCond .eq 10, 3) := by decide +kernel
theorem dX7_scanToken_28 : decode cX7_scanToken 28 = .ok (.aload_n 0, 1) := by decide +kernel
theorem dX7_scanToken_29 : decode cX7_scanToken 29 = .ok (.invokevirtual 56, 3) := by decide +kernel
theorem dX7_scanToken_32 : decode cX7_scanToken 32 = .ok (.goto 16, 3) := by decide +kernel
theorem dX7_scanToken_35 : decode cX7_scanToken 35 = .ok (.aload_n 0, 1) := by decide +kernel
theorem dX7_scanToken_36 : decode cX7_scanToken 36 = .ok (.aload_n 0, 1) := by decide +kernel
theorem dX7_scanToken_37 : decode cX7_scanToken 37 = .ok (.getfield 21, 3) := by decide +kernel
theorem dX7_scanToken_40 : decode cX7_scanToken 40 = .ok (.aload_n 0, 1) := by decide +kernel
theorem dX7_scanToken_41 : decode cX7_scanToken 41 = .ok (.getfield 28, 3) := by decide +kernel
theorem dX7_scanToken_44 : decode cX7_scanToken 44 = .ok (.iaload, 1) := by decide +kernel
theorem dX7_scanToken_45 : decode cX7_scanToken 45 = .ok (.invokevirtual 59, 3) := by decide +kernel
theorem dX7_scanToken_48 : decode cX7_scanToken 48 = .ok (.aload_n 0, 1) := by decide +kernel
theorem dX7_scanToken_49 : decode cX7_scanToken 49 = .ok (.getfield 34, 3) := by decide +kernel
theorem dX7_scanToken_52 : decode cX7_scanToken 52 = .ok (.aload_n 0, 1) := by decide +kernel
theorem dX7_scanToken_53 : decode cX7_scanToken 53 = .ok (.getfield 31, 3) := by decide +kernel
theorem dX7_scanToken_56 : decode cX7_scanToken 56 = .ok (.arraylength, 1) := by decide +kernel
theorem dX7_scanToken_57 : decode cX7_scanToken 57 = .ok (.if_icmp .ge 44, 3) := by decide +kernel
theorem dX7_scanToken_60 : decode cX7_scanToken 60 = .ok (.aload_n 0, 1) := by decide +kernel
theorem dX7_scanToken_61 : decode cX7_scanToken 61 = .ok (.getfield 31, 3) := by decide +kernel
theorem dX7_scanToken_64 : decode cX7_scanToken 64 = .ok (.aload_n 0, 1) := by decide +kernel
theorem dX7_scanToken_65 : decode cX7_scanToken 65 = .ok (.getfield 34, 3) := by decide +kernel
theorem dX7_scanToken_68 : decode cX7_scanToken 68 = .ok (.aload_n 0, 1) := by decide +kernel
theorem dX7_scanToken_69 : decode cX7_scanToken 69 = .ok (.getfield 18, 3) := by decide +kernel
theorem dX7_scanToken_72 : decode cX7_scanToken 72 = .ok (.bipush 16, 2) := by decide +kernel
theorem dX7_scanToken_74 : decode cX7_scanToken 74 = .ok (.ishl, 1) := by decide +kernel
theorem dX7_scanToken_75 : decode cX7_scanToken 75 = .ok (.aload_n 0, 1) := by decide +kernel
theorem dX7_scanToken_76 : decode cX7_scanToken 76 = .ok (.getfield 15, 3) := by decide +kernel
theorem dX7_scanToken_79 : decode cX7_scanToken 79 = .ok (.iconst 1, 1) := by decide +kernel
theorem dX7_scanToken_80 : decode cX7_scanToken 80 = .ok (.iadd, 1) := by decide +kernel
theorem dX7_scanToken_81 : decode cX7_scanToken 81 = .ok (.bipush 8, 2) := by decide +kernel
theorem dX7_scanToken_83 : decode cX7_scanToken 83 = .ok (.ishl, 1) := by decide +kernel
theorem dX7_scanToken_84 : decode cX7_scanToken 84 = .ok (.ior, 1) := by decide +kernel
theorem dX7_scanToken_85 : decode cX7_scanToken 85 = .ok (.aload_n 0, 1) := by decide +kernel
theorem dX7_scanToken_86 : decode cX7_scanToken 86 = .ok (.getfield 11, 3) := by decide +kernel
theorem dX7_scanToken_89 : decode cX7_scanToken 89 = .ok (.ior, 1) := by decide +kernel
theorem dX7_scanToken_90 : decode cX7_scanToken 90 = .ok (.iastore, 1) := by decide +kernel
theorem dX7_scanToken_91 : decode cX7_scanToken 91 = .ok (.aload_n 0, 1) := by decide +kernel
theorem dX7_scanToken_92 : decode cX7_scanToken 92 = .ok (.dup, 1) := by decide +kernel
theorem dX7_scanToken_93 : decode cX7_scanToken 93 = .ok (.getfield 34, 3) := by decide +kernel
theorem dX7_scanToken_96 : decode cX7_scanToken 96 = .ok (.iconst 1, 1) := by decide +kernel
theorem dX7_scanToken_97 : decode cX7_scanToken 97 = .ok (.iadd, 1) := by decide +kernel
theorem dX7_scanToken_98 : decode cX7_scanToken 98 = .ok (.putfield 34, 3) := by decide +kernel
theorem dX7_scanToken_101 : decode cX7_scanToken 101 = .ok (.return_, 1) := by decide +kernel
theorem dX7_begin_0 : decode cX7_begin 0 = .ok (.aload_n 0, 1) := by decide +kernel
theorem dX7_begin_1 : decode cX7_begin 1 = .ok (.aload_n 1, 1) := by decide +kernel
theorem dX7_begin_2 : decode cX7_begin 2 = .ok (.putfield 21, 3) := by decide +kernel
theorem dX7_begin_5 : decode cX7_begin 5 = .ok (.aload_n 0, 1) := by decide +kernel
theorem dX7_begin_6 : decode cX7_begin 6 = .ok (.aload_n 1, 1) := by decide +kernel
theorem dX7_begin_7 : decode cX7_begin 7 = .ok (.ifnonnull 7, 3) := by decide +kernel
theorem dX7_begin_10 : decode cX7_begin 10 = .ok (.iconst 0, 1) := by decide +kernel
theorem dX7_begin_11 : decode cX7_begin 11 = .ok (.goto 15, 3) := by decide +kernel
theorem dX7_begin_14 : decode cX7_begin 14 = .ok (.iload_n 2, 1) := by decide +kernel
theorem dX7_begin_15 : decode cX7_begin 15 = .ok (.aload_n 1, 1) := by decide +kernel
theorem dX7_begin_16 : decode cX7_begin 16 = .ok (.arraylength, 1) := by decide +kernel
theorem dX7_begin_17 : decode cX7_begin 17 = .ok (.sipush 1000, 3) := by decide +kernel
theorem dX7_begin_20 : decode cX7_begin 20 = .ok (.invokestatic 40, 3) := by decide +kernel
theorem dX7_begin_23 : decode cX7_begin 23 = .ok (.invokestatic 40, 3) := by decide +kernel
theorem dX7_begin_26 : decode cX7_begin 26 = .ok (.putfield 25, 3) := by decide +kernel
theorem dX7_begin_29 : decode cX7_begin 29 = .ok (.aload_n 0, 1) := by decide +kernel
theorem dX7_begin_30 : decode cX7_begin 30 = .ok (.iconst 0, 1) := by decide +kernel
theorem dX7_begin_31 : decode cX7_begin 31 = .ok (.putfield 28, 3) := by decide +kernel
theorem dX7_begin_34 : decode cX7_begin 34 = .ok (.aload_n 0, 1) := by decide +kernel
theorem dX7_begin_35 : decode cX7_begin 35 = .ok (.iconst 0, 1) := by decide +kernel
theorem dX7_begin_36 : decode cX7_begin 36 = .ok (.putfield 34, 3) := by decide +kernel
theorem dX7_begin_39 : decode cX7_begin 39 = .ok (.iconst 0, 1) := by decide +kernel
theorem dX7_begin_40 : decode cX7_begin 40 = .ok (.istore_n 3, 1) := by decide +kernel
theorem dX7_begin_41 : decode cX7_begin 41 = .ok (.iload_n 3, 1) := by decide +kernel
theorem dX7_begin_42 : decode cX7_begin 42 = .ok (.sipush 1000, 3) := by decide +kernel
theorem dX7_begin_45 : decode cX7_begin 45 = .ok (.if_icmp .ge 65, 3) := by decide +kernel
theorem dX7_begin_48 : decode cX7_begin 48 = .ok (.aload_n 0, 1) := by decide +kernel
theorem dX7_begin_49 : decode cX7_begin 49 = .ok (.getfield 28, 3) := by decide +kernel
theorem dX7_begin_52 : decode cX7_begin 52 = .ok (.aload_n 0, 1) := by decide +kernel
theorem dX7_begin_53 : decode cX7_begin 53 = .ok (.getfield 25, 3) := by decide +kernel
theorem dX7_begin_56 : decode cX7_begin 56 = .ok (.if_icmp .ge 54, 3) := by decide +kernel
theorem dX7_begin_59 : decode cX7_begin 59 = .ok (.aload_n 0, 1) := by decide +kernel
theorem dX7_begin_60 : decode cX7_begin 60 = .ok (.getfield 21, 3) := by decide +kernel
theorem dX7_begin_63 : decode cX7_begin 63 = .ok (.aload_n 0, 1) := by decide +kernel
theorem dX7_begin_64 : decode cX7_begin 64 = .ok (.getfield 28, 3) := by decide +kernel
theorem dX7_begin_67 : decode cX7_begin 67 = .ok (.iaload, 1) := by decide +kernel
theorem dX7_begin_68 : decode cX7_begin 68 = .ok (.bipush 32, 2) := by decide +kernel
theorem dX7_begin_70 : decode cX7_begin 70 = .ok (.if_icmp .eq 17, 3) := by decide +kernel
theorem dX7_begin_73 : decode cX7_begin 73 = .ok (.aload_n 0, 1) := by decide +kernel
theorem dX7_begin_74 : decode cX7_begin 74 = .ok (.getfield 21, 3) := by decide +kernel
theorem dX7_begin_77 : decode cX7_begin 77 = .ok (.aload_n 0, 1) := by decide +kernel
theorem dX7_begin_78 : decode cX7_begin 78 = .ok (.getfield 28, 3) := by decide +kernel
theorem dX7_begin_81 : decode cX7_begin 81 = .ok (.iaload, 1) := by decide +kernel
theorem dX7_begin_82 : decode cX7_begin 82 = .ok (.bipush 10, 2) := by decide +kernel
theorem dX7_begin_84 : decode cX7_begin 84 = .ok (.if_icmp .ne 16, 3) := by decide +kernel
theorem dX7_begin_87 : decode cX7_begin 87 = .ok (.aload_n 0, 1) := by decide +kernel
theorem dX7_begin_88 : decode cX7_begin 88 = .ok (.dup, 1) := by decide +kernel
theorem dX7_begin_89 : decode cX7_begin 89 = .ok (.getfield 28, 3) := by decide +kernel
theorem dX7_begin_92 : decode cX7_begin 92 = .ok (.iconst 1, 1) := by decide +kernel
theorem dX7_begin_93 : decode cX7_begin 93 = .ok (.iadd, 1) := by decide +kernel
theorem dX7_begin_94 : decode cX7_begin 94 = .ok (.putfield 28, 3) := by decide +kernel
theorem dX7_begin_97 : decode cX7_begin 97 = .ok (.goto 7, 3) := by decide +kernel
theorem dX7_begin_100 : decode cX7_begin 100 = .ok (.aload_n 0, 1) := by decide +kernel
theorem dX7_begin_101 : decode cX7_begin 101 = .ok (.invokevirtual 46, 3) := by decide +kernel
theorem dX7_begin_104 : decode cX7_begin 104 = .ok (.iinc 3 1, 3) := by decide +kernel
theorem dX7_begin_107 : decode cX7_begin 107 = .ok (.goto (-66), 3) := by decide +kernel
theorem dX7_begin_110 : decode cX7_begin 110 = .ok (.aload_n 0, 1) := by decide +kernel
theorem dX7_begin_111 : decode cX7_begin 111 = .ok (.iconst (-1), 1) := by decide +kernel
theorem dX7_begin_112 : decode cX7_begin 112 = .ok (.putfield 37, 3) := by decide +kernel
theorem dX7_begin_115 : decode cX7_begin 115 = .ok (.aload_n 0, 1) := by decide +kernel
theorem dX7_begin_116 : decode cX7_begin 116 = .ok (.invokevirtual 49, 3) := by decide +kernel
theorem dX7_begin_119 : decode cX7_begin 119 = .ok (.return_, 1) := by decide +kernel
theorem kn_X7_init : Kn yX7_init cX7_init 1 none 0 := ⟨wm_112, wm_113, by decide +kernel, by decide⟩
theorem kn_X7_advance : Kn yX7_advance cX7_advance 1 none 0 := ⟨wm_988, wm_113, by decide +kernel, by decide⟩
theorem kn_X7_isWordSign : Kn yX7_isWordSign cX7_isWordSign 1 (some .boolean) 1 := ⟨wm_990, wm_113, by decide +kernel, by decide⟩
theorem kn_X7_signToken : Kn yX7_signToken cX7_signToken 1 (some .int) 1 := ⟨wm_991, wm_113, by decide +kernel, by decide⟩
theorem kn_X7_scanSign : Kn yX7_scanSign cX7_scanSign 2 none 1 := ⟨wm_992, wm_113, by decide +kernel, by decide⟩
theorem kn_X7_isWord : Kn yX7_isWord cX7_isWord 3 (some .boolean) 1 := ⟨wm_995, wm_113, by decide +kernel, by decide⟩
theorem kn_X7_longWord : Kn yX7_longWord cX7_longWord 1 (some .int) 0 := ⟨wm_998, wm_113, by decide +kernel, by decide⟩
theorem kn_X7_nameOfOne : Kn yX7_nameOfOne cX7_nameOfOne 2 (some .int) 1 := ⟨wm_1002, wm_113, by decide +kernel, by decide⟩
theorem kn_X7_nameOfTwo : Kn yX7_nameOfTwo cX7_nameOfTwo 4 (some .int) 2 := ⟨wm_1003, wm_113, by decide +kernel, by decide⟩
theorem kn_X7_scanWord : Kn yX7_scanWord cX7_scanWord 1 none 0 := ⟨wm_1004, wm_113, by decide +kernel, by decide⟩
theorem kn_X7_scanToken : Kn yX7_scanToken cX7_scanToken 1 none 0 := ⟨wm_1016, wm_113, by decide +kernel, by decide⟩
theorem kn_X7_begin : Kn yX7_begin cX7_begin 4 none 2 := ⟨wm_1023, wm_113, by decide +kernel, by decide⟩
/-! ===== LitmusHouse$Scanner.<init>()V ===== -/
def b_X7_init_0 (a0 : Nat) (h : AH) : Option (AH) :=
  (ok_h a0).bind fun x1 => (p_i h a0 7 0 (0 : Int32)).bind fun h2 => (p_i h2 a0 7 1 (-1 : Int32)).bind fun h3 => (p_i h3 a0 7 2 (0 : Int32)).bind fun h4 => (p_r h4 a0 7 3 0).bind fun h5 => (p_i h5 a0 7 4 (0 : Int32)).bind fun h6 => (p_i h6 a0 7 5 (0 : Int32)).bind fun h7 => (n_a h7 100 (1001 : Int32)).bind fun h8 => (p_r h8 a0 7 6 (hp_n h7)).bind fun h9 => (p_i h9 a0 7 7 (0 : Int32)).bind fun h10 => (p_i h10 a0 7 8 (0 : Int32)).bind fun h11 => some h11
set_option maxHeartbeats 4000000 in
set_option maxRecDepth 100000 in
theorem q_X7_init_0 {a0 : Nat} {h hE : AH} (hf : b_X7_init_0 a0 h = some hE) : JD cX7_init 1 RX7 "<init>" none (2) 0 [(0, .inr (.inr (a0)))] [] h hE none := by
  unfold b_X7_init_0 at hf
  obtain ⟨x1, e1, hf⟩ := bnd hf
  obtain ⟨h2, e2, hf⟩ := bnd hf
  have m2 := nn_pi e2
  obtain ⟨h3, e3, hf⟩ := bnd hf
  have m3 := nn_pi e3
  obtain ⟨h4, e4, hf⟩ := bnd hf
  have m4 := nn_pi e4
  obtain ⟨h5, e5, hf⟩ := bnd hf
  have m5 := nn_pr e5
  obtain ⟨h6, e6, hf⟩ := bnd hf
  have m6 := nn_pi e6
  obtain ⟨h7, e7, hf⟩ := bnd hf
  have m7 := nn_pi e7
  obtain ⟨h8, e8, hf⟩ := bnd hf
  have m8 := nn_n e8
  obtain ⟨h9, e9, hf⟩ := bnd hf
  have m9 := nn_pr e9
  obtain ⟨h10, e10, hf⟩ := bnd hf
  have m10 := nn_pi e10
  obtain ⟨h11, e11, hf⟩ := bnd hf
  have m11 := nn_pi e11
  have hh := Option.some.inj hf
  subst hh
  have mE : hp_n h11 ≤ hp_n h11 ∧ hp_s h11 ≤ hp_s h11 := ⟨Nat.le_refl _, Nat.le_refl _⟩
  refine ⟨by omega, fun X g K ok nmx lev hK en => ?_⟩
  refine tj_aload_n ok 0 dX7_init_0 rfl rfl ?_
  refine tj_objInit (rest := ([] : List TV).map (vl g)) ok lev (by omega) (of_if e1).1 wm_114 wm_75 wm_obj (rs_ok (Nat.le_of_ble_eq_true rfl)) dX7_init_1 ?_
  refine tj_aload_n ok 0 dX7_init_4 rfl rfl ?_
  refine tj_iconst (v := 0) ok dX7_init_5 (by decide) ?_
  refine tj_putI (k := 0) ok fcX7 (by decide) wm_115 rfl (Or.inl rfl) rfl dX7_init_6 e2 ?_
  refine tj_aload_n ok 0 dX7_init_9 rfl rfl ?_
  refine tj_iconst (v := -1) ok dX7_init_10 (by decide) ?_
  refine tj_putI (k := 1) ok fcX7 (by decide) wm_116 rfl (Or.inl rfl) rfl dX7_init_11 e3 ?_
  refine tj_aload_n ok 0 dX7_init_14 rfl rfl ?_
  refine tj_iconst (v := 0) ok dX7_init_15 (by decide) ?_
  refine tj_putI (k := 2) ok fcX7 (by decide) wm_117 rfl (Or.inl rfl) rfl dX7_init_16 e4 ?_
  refine tj_aload_n ok 0 dX7_init_19 rfl rfl ?_
  refine tj_null ok dX7_init_20 ?_
  refine tj_putR (k := 3) ok fcX7 (by decide) wm_118 rfl (Or.inl rfl) (Or.inr ⟨_, rfl⟩) dX7_init_21 e5 ?_
  refine tj_aload_n ok 0 dX7_init_24 rfl rfl ?_
  refine tj_iconst (v := 0) ok dX7_init_25 (by decide) ?_
  refine tj_putI (k := 4) ok fcX7 (by decide) wm_119 rfl (Or.inl rfl) rfl dX7_init_26 e6 ?_
  refine tj_aload_n ok 0 dX7_init_29 rfl rfl ?_
  refine tj_iconst (v := 0) ok dX7_init_30 (by decide) ?_
  refine tj_putI (k := 5) ok fcX7 (by decide) wm_120 rfl (Or.inl rfl) rfl dX7_init_31 e7 ?_
  refine tj_aload_n ok 0 dX7_init_34 rfl rfl ?_
  refine tj_sipush (v := 1001) ok dX7_init_35 (by decide) ?_
  refine tj_newI ok wm_39 dX7_init_38 e8 (CaX.of en (by omega)) ?_
  refine tj_putR (k := 6) ok fcX7 (by decide) wm_121 rfl (Or.inr ⟨nmx, rfl⟩) (Or.inr ⟨_, rfl⟩) dX7_init_40 e9 ?_
  refine tj_aload_n ok 0 dX7_init_43 rfl rfl ?_
  refine tj_iconst (v := 0) ok dX7_init_44 (by decide) ?_
  refine tj_putI (k := 7) ok fcX7 (by decide) wm_122 rfl (Or.inl rfl) rfl dX7_init_45 e10 ?_
  refine tj_aload_n ok 0 dX7_init_48 rfl rfl ?_
  refine tj_iconst (v := 0) ok dX7_init_49 (by decide) ?_
  refine tj_putI (k := 8) ok fcX7 (by decide) wm_123 rfl (Or.inl rfl) rfl dX7_init_50 e11 ?_
  exact tj_return ok en dX7_init_53
def f_X7_init (a0 : Nat) (h : AH) : Option (AH) := b_X7_init_0  a0 h
theorem c_X7_init {a0 : Nat} {h hE : AH} (hf : f_X7_init a0 h = some hE) : ∀ g : GT, CM g (2) yX7_init cX7_init 1 none h [.inr (.inr (a0))] hE none :=
  CM.ofJ (by decide) (by show _ ≤ 1; exact Nat.le_of_ble_eq_true rfl) (q_X7_init_0 hf)
/-! ===== LitmusHouse$Scanner.advance()V ===== -/
def b_X7_advance_47 (a0 : Nat) (h : AH) : Option (AH) :=
  (p_i h a0 7 0 (0 : Int32)).bind fun h1 => (p_i h1 a0 7 1 (-1 : Int32)).bind fun h2 => (g_i h2 a0 7 4).bind fun x3 => (p_i h2 a0 7 2 x3).bind fun h4 => some h4
set_option maxHeartbeats 4000000 in
set_option maxRecDepth 100000 in
theorem q_X7_advance_47 {a0 : Nat} {h hE : AH} (hf : b_X7_advance_47 a0 h = some hE) : JD cX7_advance 1 RX7 "advance" none (2) 47 [(0, .inr (.inr (a0)))] [] h hE none := by
  unfold b_X7_advance_47 at hf
  obtain ⟨h1, e1, hf⟩ := bnd hf
  have m1 := nn_pi e1
  obtain ⟨h2, e2, hf⟩ := bnd hf
  have m2 := nn_pi e2
  obtain ⟨x3, e3, hf⟩ := bnd hf
  obtain ⟨h4, e4, hf⟩ := bnd hf
  have m4 := nn_pi e4
  have hh := Option.some.inj hf
  subst hh
  have mE : hp_n h4 ≤ hp_n h4 ∧ hp_s h4 ≤ hp_s h4 := ⟨Nat.le_refl _, Nat.le_refl _⟩
  refine ⟨by omega, fun X g K ok nmx lev hK en => ?_⟩
  refine tj_aload_n ok 0 dX7_advance_47 rfl rfl ?_
  refine tj_iconst (v := 0) ok dX7_advance_48 (by decide) ?_
  refine tj_putI (k := 0) ok fcX7 (by decide) wm_115 rfl (Or.inl rfl) rfl dX7_advance_49 e1 ?_
  refine tj_aload_n ok 0 dX7_advance_52 rfl rfl ?_
  refine tj_iconst (v := -1) ok dX7_advance_53 (by decide) ?_
  refine tj_putI (k := 1) ok fcX7 (by decide) wm_116 rfl (Or.inl rfl) rfl dX7_advance_54 e2 ?_
  refine tj_aload_n ok 0 dX7_advance_57 rfl rfl ?_
  refine tj_aload_n ok 0 dX7_advance_58 rfl rfl ?_
  refine tj_getI (k := 4) ok fcX7 (by decide) wm_119 rfl (Or.inl rfl) dX7_advance_59 e3 ?_
  refine tj_putI (k := 2) ok fcX7 (by decide) wm_117 rfl (Or.inl rfl) rfl dX7_advance_62 e4 ?_
  exact tj_return ok en dX7_advance_65
def b_X7_advance_66 (a0 : Nat) (h : AH) : Option (AH) :=
  (g_r h a0 7 6).bind fun x1 => (g_i h a0 7 8).bind fun x2 => (l_i h x1 x2).bind fun x3 => (p_i h a0 7 0 (x3 &&& (255 : Int32))).bind fun h4 => (g_r h4 a0 7 6).bind fun x5 => (g_i h4 a0 7 8).bind fun x6 => (l_i h4 x5 x6).bind fun x7 => (p_i h4 a0 7 1 (((x7 >>> ((8 : Int32) &&& 31)) &&& (255 : Int32)) - (1 : Int32))).bind fun h8 => (g_r h8 a0 7 6).bind fun x9 => (g_i h8 a0 7 8).bind fun x10 => (l_i h8 x9 x10).bind fun x11 => (p_i h8 a0 7 2 (x11 >>> ((16 : Int32) &&& 31))).bind fun h12 => some h12
set_option maxHeartbeats 4000000 in
set_option maxRecDepth 100000 in
theorem q_X7_advance_66 {a0 : Nat} {h hE : AH} (hf : b_X7_advance_66 a0 h = some hE) : JD cX7_advance 1 RX7 "advance" none (2) 66 [(0, .inr (.inr (a0)))] [] h hE none := by
  unfold b_X7_advance_66 at hf
  obtain ⟨x1, e1, hf⟩ := bnd hf
  obtain ⟨x2, e2, hf⟩ := bnd hf
  obtain ⟨x3, e3, hf⟩ := bnd hf
  obtain ⟨h4, e4, hf⟩ := bnd hf
  have m4 := nn_pi e4
  obtain ⟨x5, e5, hf⟩ := bnd hf
  obtain ⟨x6, e6, hf⟩ := bnd hf
  obtain ⟨x7, e7, hf⟩ := bnd hf
  obtain ⟨h8, e8, hf⟩ := bnd hf
  have m8 := nn_pi e8
  obtain ⟨x9, e9, hf⟩ := bnd hf
  obtain ⟨x10, e10, hf⟩ := bnd hf
  obtain ⟨x11, e11, hf⟩ := bnd hf
  obtain ⟨h12, e12, hf⟩ := bnd hf
  have m12 := nn_pi e12
  have hh := Option.some.inj hf
  subst hh
  have mE : hp_n h12 ≤ hp_n h12 ∧ hp_s h12 ≤ hp_s h12 := ⟨Nat.le_refl _, Nat.le_refl _⟩
  refine ⟨by omega, fun X g K ok nmx lev hK en => ?_⟩
  refine tj_aload_n ok 0 dX7_advance_66 rfl rfl ?_
  refine tj_aload_n ok 0 dX7_advance_67 rfl rfl ?_
  refine tj_getR (k := 6) ok fcX7 (by decide) wm_121 rfl (Or.inr ⟨_, rfl⟩) dX7_advance_68 e1 ?_
  refine tj_aload_n ok 0 dX7_advance_71 rfl rfl ?_
  refine tj_getI (k := 8) ok fcX7 (by decide) wm_123 rfl (Or.inl rfl) dX7_advance_72 e2 ?_
  refine tj_iaload ok dX7_advance_75 e3 ?_
  refine tj_sipush (v := 255) ok dX7_advance_76 (by decide) ?_
  refine tj_iand ok dX7_advance_79 ?_
  refine tj_putI (k := 0) ok fcX7 (by decide) wm_115 rfl (Or.inl rfl) rfl dX7_advance_80 e4 ?_
  refine tj_aload_n ok 0 dX7_advance_83 rfl rfl ?_
  refine tj_aload_n ok 0 dX7_advance_84 rfl rfl ?_
  refine tj_getR (k := 6) ok fcX7 (by decide) wm_121 rfl (Or.inr ⟨_, rfl⟩) dX7_advance_85 e5 ?_
  refine tj_aload_n ok 0 dX7_advance_88 rfl rfl ?_
  refine tj_getI (k := 8) ok fcX7 (by decide) wm_123 rfl (Or.inl rfl) dX7_advance_89 e6 ?_
  refine tj_iaload ok dX7_advance_92 e7 ?_
  refine tj_bipush (v := 8) ok dX7_advance_93 (by decide) ?_
  refine tj_ishr ok dX7_advance_95 ?_
  refine tj_sipush (v := 255) ok dX7_advance_96 (by decide) ?_
  refine tj_iand ok dX7_advance_99 ?_
  refine tj_iconst (v := 1) ok dX7_advance_100 (by decide) ?_
  refine tj_isub ok dX7_advance_101 ?_
  refine tj_putI (k := 1) ok fcX7 (by decide) wm_116 rfl (Or.inl rfl) rfl dX7_advance_102 e8 ?_
  refine tj_aload_n ok 0 dX7_advance_105 rfl rfl ?_
  refine tj_aload_n ok 0 dX7_advance_106 rfl rfl ?_
  refine tj_getR (k := 6) ok fcX7 (by decide) wm_121 rfl (Or.inr ⟨_, rfl⟩) dX7_advance_107 e9 ?_
  refine tj_aload_n ok 0 dX7_advance_110 rfl rfl ?_
  refine tj_getI (k := 8) ok fcX7 (by decide) wm_123 rfl (Or.inl rfl) dX7_advance_111 e10 ?_
  refine tj_iaload ok dX7_advance_114 e11 ?_
  refine tj_bipush (v := 16) ok dX7_advance_115 (by decide) ?_
  refine tj_ishr ok dX7_advance_117 ?_
  refine tj_putI (k := 2) ok fcX7 (by decide) wm_117 rfl (Or.inl rfl) rfl dX7_advance_118 e12 ?_
  exact tj_return ok en dX7_advance_121
def b_X7_advance_35 (a0 : Nat) (h : AH) : Option (AH) :=
  (g_i h a0 7 8).bind fun x1 => (g_r h a0 7 6).bind fun x2 => (al_n h x2).bind fun x3 => if x1 < x3 then b_X7_advance_66 a0 h else b_X7_advance_47 a0 h
set_option maxHeartbeats 4000000 in
set_option maxRecDepth 100000 in
theorem q_X7_advance_35 {a0 : Nat} {h hE : AH} (hf : b_X7_advance_35 a0 h = some hE) : JD cX7_advance 1 RX7 "advance" none (2) 35 [(0, .inr (.inr (a0)))] [] h hE none := by
  unfold b_X7_advance_35 at hf
  obtain ⟨x1, e1, hf⟩ := bnd hf
  obtain ⟨x2, e2, hf⟩ := bnd hf
  obtain ⟨x3, e3, hf⟩ := bnd hf
  have mE : hp_n h ≤ hp_n hE ∧ hp_s h ≤ hp_s hE := by
    by_cases hc : x1 < x3
    · rw [if_pos hc] at hf; exact (q_X7_advance_66 hf).1
    · rw [if_neg hc] at hf; exact (q_X7_advance_47 hf).1
  refine ⟨by omega, fun X g K ok nmx lev hK en => ?_⟩
  refine tj_aload_n ok 0 dX7_advance_35 rfl rfl ?_
  refine tj_getI (k := 8) ok fcX7 (by decide) wm_123 rfl (Or.inl rfl) dX7_advance_36 e1 ?_
  refine tj_aload_n ok 0 dX7_advance_39 rfl rfl ?_
  refine tj_getR (k := 6) ok fcX7 (by decide) wm_121 rfl (Or.inr ⟨_, rfl⟩) dX7_advance_40 e2 ?_
  refine tj_alen ok dX7_advance_43 e3 ?_
  refine tj_icmp_lt (tgt := 66) ok dX7_advance_44 (by decide) (fun hc => ?_) (fun hc => ?_)
  · rw [if_pos hc] at hf
    exact (q_X7_advance_66 hf).2 X g K ok nmx lev hK en
  · rw [if_neg hc] at hf
    exact (q_X7_advance_47 hf).2 X g K ok nmx lev hK en
def b_X7_advance_24 (a0 : Nat) (h : AH) : Option (AH) :=
  (g_i h a0 7 8).bind fun x1 => (g_i h a0 7 7).bind fun x2 => if x2 ≤ x1 then b_X7_advance_47 a0 h else b_X7_advance_35 a0 h
set_option maxHeartbeats 4000000 in
set_option maxRecDepth 100000 in
theorem q_X7_advance_24 {a0 : Nat} {h hE : AH} (hf : b_X7_advance_24 a0 h = some hE) : JD cX7_advance 1 RX7 "advance" none (2) 24 [(0, .inr (.inr (a0)))] [] h hE none := by
  unfold b_X7_advance_24 at hf
  obtain ⟨x1, e1, hf⟩ := bnd hf
  obtain ⟨x2, e2, hf⟩ := bnd hf
  have mE : hp_n h ≤ hp_n hE ∧ hp_s h ≤ hp_s hE := by
    by_cases hc : x2 ≤ x1
    · rw [if_pos hc] at hf; exact (q_X7_advance_47 hf).1
    · rw [if_neg hc] at hf; exact (q_X7_advance_35 hf).1
  refine ⟨by omega, fun X g K ok nmx lev hK en => ?_⟩
  refine tj_aload_n ok 0 dX7_advance_24 rfl rfl ?_
  refine tj_getI (k := 8) ok fcX7 (by decide) wm_123 rfl (Or.inl rfl) dX7_advance_25 e1 ?_
  refine tj_aload_n ok 0 dX7_advance_28 rfl rfl ?_
  refine tj_getI (k := 7) ok fcX7 (by decide) wm_122 rfl (Or.inl rfl) dX7_advance_29 e2 ?_
  refine tj_icmp_ge (tgt := 47) ok dX7_advance_32 (by decide) (fun hc => ?_) (fun hc => ?_)
  · rw [if_pos hc] at hf
    exact (q_X7_advance_47 hf).2 X g K ok nmx lev hK en
  · rw [if_neg hc] at hf
    exact (q_X7_advance_35 hf).2 X g K ok nmx lev hK en
def b_X7_advance_0 (a0 : Nat) (h : AH) : Option (AH) :=
  (g_i h a0 7 8).bind fun x1 => (g_i h a0 7 7).bind fun x2 => (p_i h a0 7 8 (mn_i (x1 + (1 : Int32)) x2)).bind fun h3 => (g_i h3 a0 7 8).bind fun x4 => if x4 < 0 then b_X7_advance_47 a0 h3 else b_X7_advance_24 a0 h3
set_option maxHeartbeats 4000000 in
set_option maxRecDepth 100000 in
theorem q_X7_advance_0 {a0 : Nat} {h hE : AH} (hf : b_X7_advance_0 a0 h = some hE) : JD cX7_advance 1 RX7 "advance" none (2) 0 [(0, .inr (.inr (a0)))] [] h hE none := by
  unfold b_X7_advance_0 at hf
  obtain ⟨x1, e1, hf⟩ := bnd hf
  obtain ⟨x2, e2, hf⟩ := bnd hf
  obtain ⟨h3, e3, hf⟩ := bnd hf
  have m3 := nn_pi e3
  obtain ⟨x4, e4, hf⟩ := bnd hf
  have mE : hp_n h3 ≤ hp_n hE ∧ hp_s h3 ≤ hp_s hE := by
    by_cases hc : x4 < 0
    · rw [if_pos hc] at hf; exact (q_X7_advance_47 hf).1
    · rw [if_neg hc] at hf; exact (q_X7_advance_24 hf).1
  refine ⟨by omega, fun X g K ok nmx lev hK en => ?_⟩
  refine tj_aload_n ok 0 dX7_advance_0 rfl rfl ?_
  refine tj_aload_n ok 0 dX7_advance_1 rfl rfl ?_
  refine tj_getI (k := 8) ok fcX7 (by decide) wm_123 rfl (Or.inl rfl) dX7_advance_2 e1 ?_
  refine tj_iconst (v := 1) ok dX7_advance_5 (by decide) ?_
  refine tj_iadd ok dX7_advance_6 ?_
  refine tj_aload_n ok 0 dX7_advance_7 rfl rfl ?_
  refine tj_getI (k := 7) ok fcX7 (by decide) wm_122 rfl (Or.inl rfl) dX7_advance_8 e2 ?_
  refine tj_min (rest := ([.inr (.inr (a0))] : List TV).map (vl g)) ok lev (by omega) (CaX.of en (by omega)) wm_989 wm_41 wm_42 wm_43 (rs_ok (Nat.le_of_ble_eq_true rfl)) dX7_advance_11 ?_
  refine tj_putI (k := 8) ok fcX7 (by decide) wm_123 rfl (Or.inl rfl) rfl dX7_advance_14 e3 ?_
  refine tj_aload_n ok 0 dX7_advance_17 rfl rfl ?_
  refine tj_getI (k := 8) ok fcX7 (by decide) wm_123 rfl (Or.inl rfl) dX7_advance_18 e4 ?_
  refine tj_if_lt (tgt := 47) ok dX7_advance_21 (by decide) (fun hc => ?_) (fun hc => ?_)
  · rw [if_pos hc] at hf
    exact (q_X7_advance_47 hf).2 X g K ok nmx lev hK en
  · rw [if_neg hc] at hf
    exact (q_X7_advance_24 hf).2 X g K ok nmx lev hK en
def f_X7_advance (a0 : Nat) (h : AH) : Option (AH) := b_X7_advance_0  a0 h
theorem c_X7_advance {a0 : Nat} {h hE : AH} (hf : f_X7_advance a0 h = some hE) : ∀ g : GT, CM g (2) yX7_advance cX7_advance 1 none h [.inr (.inr (a0))] hE none :=
  CM.ofJ (by decide) (by show _ ≤ 1; exact Nat.le_of_ble_eq_true rfl) (q_X7_advance_0 hf)
/-! ===== LitmusHouse$Scanner.isWordSign(I)Z ===== -/
def b_X7_isWordSign_41 (s0 : Int32) (h : AH) : Option (Int32 × AH) :=
  ok_z s0 h
set_option maxHeartbeats 4000000 in
set_option maxRecDepth 100000 in
theorem q_X7_isWordSign_41 {s0 : Int32} {h hE : AH} {v : Int32} (hf : b_X7_isWordSign_41 s0 h = some (v, hE)) : JD cX7_isWordSign 1 RX7 "isWordSign" (some .boolean) (2) 41 [] [.inl (s0)] h hE (some (.inl (v))) := by
  unfold b_X7_isWordSign_41 at hf
  have mE : hp_n h ≤ hp_n hE ∧ hp_s h ≤ hp_s hE := by obtain ⟨-, q⟩ := of_if hf; cases q; exact ⟨Nat.le_refl _, Nat.le_refl _⟩
  refine ⟨by omega, fun X g K ok nmx lev hK en => ?_⟩
  exact tj_zreturn ok hf en dX7_isWordSign_41
def b_X7_isWordSign_40  (h : AH) : Option (Int32 × AH) :=
  b_X7_isWordSign_41 (0 : Int32) h
set_option maxHeartbeats 4000000 in
set_option maxRecDepth 100000 in
theorem q_X7_isWordSign_40 {h hE : AH} {v : Int32} (hf : b_X7_isWordSign_40  h = some (v, hE)) : JD cX7_isWordSign 1 RX7 "isWordSign" (some .boolean) (2) 40 [] [] h hE (some (.inl (v))) := by
  unfold b_X7_isWordSign_40 at hf
  have J := q_X7_isWordSign_41 hf
  have mE := J.1
  refine ⟨by omega, fun X g K ok nmx lev hK en => ?_⟩
  refine tj_iconst (v := 0) ok dX7_isWordSign_40 (by decide) ?_
  exact J.2 X g K ok nmx lev hK en
def b_X7_isWordSign_36  (h : AH) : Option (Int32 × AH) :=
  b_X7_isWordSign_41 (1 : Int32) h
set_option maxHeartbeats 4000000 in
set_option maxRecDepth 100000 in
theorem q_X7_isWordSign_36 {h hE : AH} {v : Int32} (hf : b_X7_isWordSign_36  h = some (v, hE)) : JD cX7_isWordSign 1 RX7 "isWordSign" (some .boolean) (2) 36 [] [] h hE (some (.inl (v))) := by
  unfold b_X7_isWordSign_36 at hf
  have J := q_X7_isWordSign_41 hf
  have mE := J.1
  refine ⟨by omega, fun X g K ok nmx lev hK en => ?_⟩
  refine tj_iconst (v := 1) ok dX7_isWordSign_36 (by decide) ?_
  refine tj_goto (tgt := 41) ok dX7_isWordSign_37 (by decide) ?_
  exact J.2 X g K ok nmx lev hK en
def b_X7_isWordSign_30 (a0 : Int32) (h : AH) : Option (Int32 × AH) :=
  if (57 : Int32) < a0 then b_X7_isWordSign_40 h else b_X7_isWordSign_36 h
set_option maxHeartbeats 4000000 in
set_option maxRecDepth 100000 in
theorem q_X7_isWordSign_30 {a0 : Int32} {h hE : AH} {v : Int32} (hf : b_X7_isWordSign_30 a0 h = some (v, hE)) : JD cX7_isWordSign 1 RX7 "isWordSign" (some .boolean) (2) 30 [(0, .inl (a0))] [] h hE (some (.inl (v))) := by
  unfold b_X7_isWordSign_30 at hf
  have mE : hp_n h ≤ hp_n hE ∧ hp_s h ≤ hp_s hE := by
    by_cases hc : (57 : Int32) < a0
    · rw [if_pos hc] at hf; exact (q_X7_isWordSign_40 hf).1
    · rw [if_neg hc] at hf; exact (q_X7_isWordSign_36 hf).1
  refine ⟨by omega, fun X g K ok nmx lev hK en => ?_⟩
  refine tj_iload_n ok 0 dX7_isWordSign_30 rfl rfl ?_
  refine tj_bipush (v := 57) ok dX7_isWordSign_31 (by decide) ?_
  refine tj_icmp_gt (tgt := 40) ok dX7_isWordSign_33 (by decide) (fun hc => ?_) (fun hc => ?_)
  · rw [if_pos hc] at hf
    refine tj_sub (lv' := []) [] rfl ?_
    exact (q_X7_isWordSign_40 hf).2 X g K ok nmx lev hK en
  · rw [if_neg hc] at hf
    refine tj_sub (lv' := []) [] rfl ?_
    exact (q_X7_isWordSign_36 hf).2 X g K ok nmx lev hK en
def b_X7_isWordSign_24 (a0 : Int32) (h : AH) : Option (Int32 × AH) :=
  if a0 < (48 : Int32) then b_X7_isWordSign_40 h else b_X7_isWordSign_30 a0 h
set_option maxHeartbeats 4000000 in
set_option maxRecDepth 100000 in
theorem q_X7_isWordSign_24 {a0 : Int32} {h hE : AH} {v : Int32} (hf : b_X7_isWordSign_24 a0 h = some (v, hE)) : JD cX7_isWordSign 1 RX7 "isWordSign" (some .boolean) (2) 24 [(0, .inl (a0))] [] h hE (some (.inl (v))) := by
  unfold b_X7_isWordSign_24 at hf
  have mE : hp_n h ≤ hp_n hE ∧ hp_s h ≤ hp_s hE := by
    by_cases hc : a0 < (48 : Int32)
    · rw [if_pos hc] at hf; exact (q_X7_isWordSign_40 hf).1
    · rw [if_neg hc] at hf; exact (q_X7_isWordSign_30 hf).1
  refine ⟨by omega, fun X g K ok nmx lev hK en => ?_⟩
  refine tj_iload_n ok 0 dX7_isWordSign_24 rfl rfl ?_
  refine tj_bipush (v := 48) ok dX7_isWordSign_25 (by decide) ?_
  refine tj_icmp_lt (tgt := 40) ok dX7_isWordSign_27 (by decide) (fun hc => ?_) (fun hc => ?_)
  · rw [if_pos hc] at hf
    refine tj_sub (lv' := []) [] rfl ?_
    exact (q_X7_isWordSign_40 hf).2 X g K ok nmx lev hK en
  · rw [if_neg hc] at hf
    exact (q_X7_isWordSign_30 hf).2 X g K ok nmx lev hK en
def b_X7_isWordSign_18 (a0 : Int32) (h : AH) : Option (Int32 × AH) :=
  if a0 ≤ (90 : Int32) then b_X7_isWordSign_36 h else b_X7_isWordSign_24 a0 h
set_option maxHeartbeats 4000000 in
set_option maxRecDepth 100000 in
theorem q_X7_isWordSign_18 {a0 : Int32} {h hE : AH} {v : Int32} (hf : b_X7_isWordSign_18 a0 h = some (v, hE)) : JD cX7_isWordSign 1 RX7 "isWordSign" (some .boolean) (2) 18 [(0, .inl (a0))] [] h hE (some (.inl (v))) := by
  unfold b_X7_isWordSign_18 at hf
  have mE : hp_n h ≤ hp_n hE ∧ hp_s h ≤ hp_s hE := by
    by_cases hc : a0 ≤ (90 : Int32)
    · rw [if_pos hc] at hf; exact (q_X7_isWordSign_36 hf).1
    · rw [if_neg hc] at hf; exact (q_X7_isWordSign_24 hf).1
  refine ⟨by omega, fun X g K ok nmx lev hK en => ?_⟩
  refine tj_iload_n ok 0 dX7_isWordSign_18 rfl rfl ?_
  refine tj_bipush (v := 90) ok dX7_isWordSign_19 (by decide) ?_
  refine tj_icmp_le (tgt := 36) ok dX7_isWordSign_21 (by decide) (fun hc => ?_) (fun hc => ?_)
  · rw [if_pos hc] at hf
    refine tj_sub (lv' := []) [] rfl ?_
    exact (q_X7_isWordSign_36 hf).2 X g K ok nmx lev hK en
  · rw [if_neg hc] at hf
    exact (q_X7_isWordSign_24 hf).2 X g K ok nmx lev hK en
def b_X7_isWordSign_12 (a0 : Int32) (h : AH) : Option (Int32 × AH) :=
  if a0 < (65 : Int32) then b_X7_isWordSign_24 a0 h else b_X7_isWordSign_18 a0 h
set_option maxHeartbeats 4000000 in
set_option maxRecDepth 100000 in
theorem q_X7_isWordSign_12 {a0 : Int32} {h hE : AH} {v : Int32} (hf : b_X7_isWordSign_12 a0 h = some (v, hE)) : JD cX7_isWordSign 1 RX7 "isWordSign" (some .boolean) (2) 12 [(0, .inl (a0))] [] h hE (some (.inl (v))) := by
  unfold b_X7_isWordSign_12 at hf
  have mE : hp_n h ≤ hp_n hE ∧ hp_s h ≤ hp_s hE := by
    by_cases hc : a0 < (65 : Int32)
    · rw [if_pos hc] at hf; exact (q_X7_isWordSign_24 hf).1
    · rw [if_neg hc] at hf; exact (q_X7_isWordSign_18 hf).1
  refine ⟨by omega, fun X g K ok nmx lev hK en => ?_⟩
  refine tj_iload_n ok 0 dX7_isWordSign_12 rfl rfl ?_
  refine tj_bipush (v := 65) ok dX7_isWordSign_13 (by decide) ?_
  refine tj_icmp_lt (tgt := 24) ok dX7_isWordSign_15 (by decide) (fun hc => ?_) (fun hc => ?_)
  · rw [if_pos hc] at hf
    exact (q_X7_isWordSign_24 hf).2 X g K ok nmx lev hK en
  · rw [if_neg hc] at hf
    exact (q_X7_isWordSign_18 hf).2 X g K ok nmx lev hK en
def b_X7_isWordSign_6 (a0 : Int32) (h : AH) : Option (Int32 × AH) :=
  if a0 ≤ (122 : Int32) then b_X7_isWordSign_36 h else b_X7_isWordSign_12 a0 h
set_option maxHeartbeats 4000000 in
set_option maxRecDepth 100000 in
theorem q_X7_isWordSign_6 {a0 : Int32} {h hE : AH} {v : Int32} (hf : b_X7_isWordSign_6 a0 h = some (v, hE)) : JD cX7_isWordSign 1 RX7 "isWordSign" (some .boolean) (2) 6 [(0, .inl (a0))] [] h hE (some (.inl (v))) := by
  unfold b_X7_isWordSign_6 at hf
  have mE : hp_n h ≤ hp_n hE ∧ hp_s h ≤ hp_s hE := by
    by_cases hc : a0 ≤ (122 : Int32)
    · rw [if_pos hc] at hf; exact (q_X7_isWordSign_36 hf).1
    · rw [if_neg hc] at hf; exact (q_X7_isWordSign_12 hf).1
  refine ⟨by omega, fun X g K ok nmx lev hK en => ?_⟩
  refine tj_iload_n ok 0 dX7_isWordSign_6 rfl rfl ?_
  refine tj_bipush (v := 122) ok dX7_isWordSign_7 (by decide) ?_
  refine tj_icmp_le (tgt := 36) ok dX7_isWordSign_9 (by decide) (fun hc => ?_) (fun hc => ?_)
  · rw [if_pos hc] at hf
    refine tj_sub (lv' := []) [] rfl ?_
    exact (q_X7_isWordSign_36 hf).2 X g K ok nmx lev hK en
  · rw [if_neg hc] at hf
    exact (q_X7_isWordSign_12 hf).2 X g K ok nmx lev hK en
def b_X7_isWordSign_0 (a0 : Int32) (h : AH) : Option (Int32 × AH) :=
  if a0 < (97 : Int32) then b_X7_isWordSign_12 a0 h else b_X7_isWordSign_6 a0 h
set_option maxHeartbeats 4000000 in
set_option maxRecDepth 100000 in
theorem q_X7_isWordSign_0 {a0 : Int32} {h hE : AH} {v : Int32} (hf : b_X7_isWordSign_0 a0 h = some (v, hE)) : JD cX7_isWordSign 1 RX7 "isWordSign" (some .boolean) (2) 0 [(0, .inl (a0))] [] h hE (some (.inl (v))) := by
  unfold b_X7_isWordSign_0 at hf
  have mE : hp_n h ≤ hp_n hE ∧ hp_s h ≤ hp_s hE := by
    by_cases hc : a0 < (97 : Int32)
    · rw [if_pos hc] at hf; exact (q_X7_isWordSign_12 hf).1
    · rw [if_neg hc] at hf; exact (q_X7_isWordSign_6 hf).1
  refine ⟨by omega, fun X g K ok nmx lev hK en => ?_⟩
  refine tj_iload_n ok 0 dX7_isWordSign_0 rfl rfl ?_
  refine tj_bipush (v := 97) ok dX7_isWordSign_1 (by decide) ?_
  refine tj_icmp_lt (tgt := 12) ok dX7_isWordSign_3 (by decide) (fun hc => ?_) (fun hc => ?_)
  · rw [if_pos hc] at hf
    exact (q_X7_isWordSign_12 hf).2 X g K ok nmx lev hK en
  · rw [if_neg hc] at hf
    exact (q_X7_isWordSign_6 hf).2 X g K ok nmx lev hK en
def f_X7_isWordSign (a0 : Int32) (h : AH) : Option (Int32 × AH) := b_X7_isWordSign_0  a0 h
theorem c_X7_isWordSign {a0 : Int32} {h hE : AH} {v : Int32} (hf : f_X7_isWordSign a0 h = some (v, hE)) : ∀ g : GT, CM g (2) yX7_isWordSign cX7_isWordSign 1 (some .boolean) h [.inl (a0)] hE (some (.inl (v))) :=
  CM.ofJ (by decide) (by show _ ≤ 1; exact Nat.le_of_ble_eq_true rfl) (q_X7_isWordSign_0 hf)
/-! ===== LitmusHouse$Scanner.signToken(I)I ===== -/
def b_X7_signToken_66  (h : AH) : Option (Int32 × AH) :=
  some ((18 : Int32), h)
set_option maxHeartbeats 4000000 in
set_option maxRecDepth 100000 in
theorem q_X7_signToken_66 {h hE : AH} {v : Int32} (hf : b_X7_signToken_66  h = some (v, hE)) : JD cX7_signToken 1 RX7 "signToken" (some .int) (2) 66 [] [] h hE (some (.inl (v))) := by
  unfold b_X7_signToken_66 at hf
  obtain ⟨hv, hh⟩ := Prod.mk.inj (Option.some.inj hf)
  subst hv
  subst hh
  have mE : hp_n h ≤ hp_n h ∧ hp_s h ≤ hp_s h := ⟨Nat.le_refl _, Nat.le_refl _⟩
  refine ⟨by omega, fun X g K ok nmx lev hK en => ?_⟩
  refine tj_bipush (v := 18) ok dX7_signToken_66 (by decide) ?_
  exact tj_ireturn ok en dX7_signToken_68
def b_X7_signToken_69  (h : AH) : Option (Int32 × AH) :=
  some ((19 : Int32), h)
set_option maxHeartbeats 4000000 in
set_option maxRecDepth 100000 in
theorem q_X7_signToken_69 {h hE : AH} {v : Int32} (hf : b_X7_signToken_69  h = some (v, hE)) : JD cX7_signToken 1 RX7 "signToken" (some .int) (2) 69 [] [] h hE (some (.inl (v))) := by
  unfold b_X7_signToken_69 at hf
  obtain ⟨hv, hh⟩ := Prod.mk.inj (Option.some.inj hf)
  subst hv
  subst hh
  have mE : hp_n h ≤ hp_n h ∧ hp_s h ≤ hp_s h := ⟨Nat.le_refl _, Nat.le_refl _⟩
  refine ⟨by omega, fun X g K ok nmx lev hK en => ?_⟩
  refine tj_bipush (v := 19) ok dX7_signToken_69 (by decide) ?_
  exact tj_ireturn ok en dX7_signToken_71
def b_X7_signToken_60  (h : AH) : Option (Int32 × AH) :=
  some ((15 : Int32), h)
set_option maxHeartbeats 4000000 in
set_option maxRecDepth 100000 in
theorem q_X7_signToken_60 {h hE : AH} {v : Int32} (hf : b_X7_signToken_60  h = some (v, hE)) : JD cX7_signToken 1 RX7 "signToken" (some .int) (2) 60 [] [] h hE (some (.inl (v))) := by
  unfold b_X7_signToken_60 at hf
  obtain ⟨hv, hh⟩ := Prod.mk.inj (Option.some.inj hf)
  subst hv
  subst hh
  have mE : hp_n h ≤ hp_n h ∧ hp_s h ≤ hp_s h := ⟨Nat.le_refl _, Nat.le_refl _⟩
  refine ⟨by omega, fun X g K ok nmx lev hK en => ?_⟩
  refine tj_bipush (v := 15) ok dX7_signToken_60 (by decide) ?_
  exact tj_ireturn ok en dX7_signToken_62
def b_X7_signToken_63  (h : AH) : Option (Int32 × AH) :=
  some ((16 : Int32), h)
set_option maxHeartbeats 4000000 in
set_option maxRecDepth 100000 in
theorem q_X7_signToken_63 {h hE : AH} {v : Int32} (hf : b_X7_signToken_63  h = some (v, hE)) : JD cX7_signToken 1 RX7 "signToken" (some .int) (2) 63 [] [] h hE (some (.inl (v))) := by
  unfold b_X7_signToken_63 at hf
  obtain ⟨hv, hh⟩ := Prod.mk.inj (Option.some.inj hf)
  subst hv
  subst hh
  have mE : hp_n h ≤ hp_n h ∧ hp_s h ≤ hp_s h := ⟨Nat.le_refl _, Nat.le_refl _⟩
  refine ⟨by omega, fun X g K ok nmx lev hK en => ?_⟩
  refine tj_bipush (v := 16) ok dX7_signToken_63 (by decide) ?_
  exact tj_ireturn ok en dX7_signToken_65
def b_X7_signToken_72  (h : AH) : Option (Int32 × AH) :=
  some ((20 : Int32), h)
set_option maxHeartbeats 4000000 in
set_option maxRecDepth 100000 in
theorem q_X7_signToken_72 {h hE : AH} {v : Int32} (hf : b_X7_signToken_72  h = some (v, hE)) : JD cX7_signToken 1 RX7 "signToken" (some .int) (2) 72 [] [] h hE (some (.inl (v))) := by
  unfold b_X7_signToken_72 at hf
  obtain ⟨hv, hh⟩ := Prod.mk.inj (Option.some.inj hf)
  subst hv
  subst hh
  have mE : hp_n h ≤ hp_n h ∧ hp_s h ≤ hp_s h := ⟨Nat.le_refl _, Nat.le_refl _⟩
  refine ⟨by omega, fun X g K ok nmx lev hK en => ?_⟩
  refine tj_bipush (v := 20) ok dX7_signToken_72 (by decide) ?_
  exact tj_ireturn ok en dX7_signToken_74
def b_X7_signToken_75  (h : AH) : Option (Int32 × AH) :=
  some ((21 : Int32), h)
set_option maxHeartbeats 4000000 in
set_option maxRecDepth 100000 in
theorem q_X7_signToken_75 {h hE : AH} {v : Int32} (hf : b_X7_signToken_75  h = some (v, hE)) : JD cX7_signToken 1 RX7 "signToken" (some .int) (2) 75 [] [] h hE (some (.inl (v))) := by
  unfold b_X7_signToken_75 at hf
  obtain ⟨hv, hh⟩ := Prod.mk.inj (Option.some.inj hf)
  subst hv
  subst hh
  have mE : hp_n h ≤ hp_n h ∧ hp_s h ≤ hp_s h := ⟨Nat.le_refl _, Nat.le_refl _⟩
  refine ⟨by omega, fun X g K ok nmx lev hK en => ?_⟩
  refine tj_bipush (v := 21) ok dX7_signToken_75 (by decide) ?_
  exact tj_ireturn ok en dX7_signToken_77
def b_X7_signToken_78  (h : AH) : Option (Int32 × AH) :=
  some ((1 : Int32), h)
set_option maxHeartbeats 4000000 in
set_option maxRecDepth 100000 in
theorem q_X7_signToken_78 {h hE : AH} {v : Int32} (hf : b_X7_signToken_78  h = some (v, hE)) : JD cX7_signToken 1 RX7 "signToken" (some .int) (2) 78 [] [] h hE (some (.inl (v))) := by
  unfold b_X7_signToken_78 at hf
  obtain ⟨hv, hh⟩ := Prod.mk.inj (Option.some.inj hf)
  subst hv
  subst hh
  have mE : hp_n h ≤ hp_n h ∧ hp_s h ≤ hp_s h := ⟨Nat.le_refl _, Nat.le_refl _⟩
  refine ⟨by omega, fun X g K ok nmx lev hK en => ?_⟩
  refine tj_iconst (v := 1) ok dX7_signToken_78 (by decide) ?_
  exact tj_ireturn ok en dX7_signToken_79
def b_X7_signToken_0 (a0 : Int32) (h : AH) : Option (Int32 × AH) :=
  if a0 = 43 then b_X7_signToken_66 h else if a0 = 46 then b_X7_signToken_69 h else if a0 = 59 then b_X7_signToken_60 h else if a0 = 61 then b_X7_signToken_63 h else if a0 = 123 then b_X7_signToken_72 h else if a0 = 125 then b_X7_signToken_75 h else b_X7_signToken_78 h
set_option maxHeartbeats 4000000 in
set_option maxRecDepth 100000 in
theorem q_X7_signToken_0 {a0 : Int32} {h hE : AH} {v : Int32} (hf : b_X7_signToken_0 a0 h = some (v, hE)) : JD cX7_signToken 1 RX7 "signToken" (some .int) (2) 0 [(0, .inl (a0))] [] h hE (some (.inl (v))) := by
  unfold b_X7_signToken_0 at hf
  have mE : hp_n h ≤ hp_n hE ∧ hp_s h ≤ hp_s hE := by
    by_cases hc0 : a0 = 43
    · rw [if_pos hc0] at hf; exact (q_X7_signToken_66 hf).1
    rw [if_neg hc0] at hf
    by_cases hc1 : a0 = 46
    · rw [if_pos hc1] at hf; exact (q_X7_signToken_69 hf).1
    rw [if_neg hc1] at hf
    by_cases hc2 : a0 = 59
    · rw [if_pos hc2] at hf; exact (q_X7_signToken_60 hf).1
    rw [if_neg hc2] at hf
    by_cases hc3 : a0 = 61
    · rw [if_pos hc3] at hf; exact (q_X7_signToken_63 hf).1
    rw [if_neg hc3] at hf
    by_cases hc4 : a0 = 123
    · rw [if_pos hc4] at hf; exact (q_X7_signToken_72 hf).1
    rw [if_neg hc4] at hf
    by_cases hc5 : a0 = 125
    · rw [if_pos hc5] at hf; exact (q_X7_signToken_75 hf).1
    rw [if_neg hc5] at hf
    exact (q_X7_signToken_78 hf).1
  refine ⟨by omega, fun X g K ok nmx lev hK en => ?_⟩
  refine tj_iload_n ok 0 dX7_signToken_0 rfl rfl ?_
  by_cases hc0 : a0 = 43
  · rw [if_pos hc0] at hf
    have hx : (a0).toInt = 43 := by rw [hc0]; decide
    refine tj_lookup (off := 65) (tgt := 66) ok dX7_signToken_1 (by decide) (by rw [hx]; decide) (by decide) ?_
    refine tj_sub (lv' := []) [] rfl ?_
    exact (q_X7_signToken_66 hf).2 X g K ok nmx lev hK en
  rw [if_neg hc0] at hf
  have hn0 := tn_i (n := 43) (by decide) hc0
  have hp0 := tn_j hn0
  by_cases hc1 : a0 = 46
  · rw [if_pos hc1] at hf
    have hx : (a0).toInt = 46 := by rw [hc1]; decide
    refine tj_lookup (off := 68) (tgt := 69) ok dX7_signToken_1 (by decide) (by rw [hx]; decide) (by decide) ?_
    refine tj_sub (lv' := []) [] rfl ?_
    exact (q_X7_signToken_69 hf).2 X g K ok nmx lev hK en
  rw [if_neg hc1] at hf
  have hn1 := tn_i (n := 46) (by decide) hc1
  have hp1 := tn_j hn1
  by_cases hc2 : a0 = 59
  · rw [if_pos hc2] at hf
    have hx : (a0).toInt = 59 := by rw [hc2]; decide
    refine tj_lookup (off := 59) (tgt := 60) ok dX7_signToken_1 (by decide) (by rw [hx]; decide) (by decide) ?_
    refine tj_sub (lv' := []) [] rfl ?_
    exact (q_X7_signToken_60 hf).2 X g K ok nmx lev hK en
  rw [if_neg hc2] at hf
  have hn2 := tn_i (n := 59) (by decide) hc2
  have hp2 := tn_j hn2
  by_cases hc3 : a0 = 61
  · rw [if_pos hc3] at hf
    have hx : (a0).toInt = 61 := by rw [hc3]; decide
    refine tj_lookup (off := 62) (tgt := 63) ok dX7_signToken_1 (by decide) (by rw [hx]; decide) (by decide) ?_
    refine tj_sub (lv' := []) [] rfl ?_
    exact (q_X7_signToken_63 hf).2 X g K ok nmx lev hK en
  rw [if_neg hc3] at hf
  have hn3 := tn_i (n := 61) (by decide) hc3
  have hp3 := tn_j hn3
  by_cases hc4 : a0 = 123
  · rw [if_pos hc4] at hf
    have hx : (a0).toInt = 123 := by rw [hc4]; decide
    refine tj_lookup (off := 71) (tgt := 72) ok dX7_signToken_1 (by decide) (by rw [hx]; decide) (by decide) ?_
    refine tj_sub (lv' := []) [] rfl ?_
    exact (q_X7_signToken_72 hf).2 X g K ok nmx lev hK en
  rw [if_neg hc4] at hf
  have hn4 := tn_i (n := 123) (by decide) hc4
  have hp4 := tn_j hn4
  by_cases hc5 : a0 = 125
  · rw [if_pos hc5] at hf
    have hx : (a0).toInt = 125 := by rw [hc5]; decide
    refine tj_lookup (off := 74) (tgt := 75) ok dX7_signToken_1 (by decide) (by rw [hx]; decide) (by decide) ?_
    refine tj_sub (lv' := []) [] rfl ?_
    exact (q_X7_signToken_75 hf).2 X g K ok nmx lev hK en
  rw [if_neg hc5] at hf
  have hn5 := tn_i (n := 125) (by decide) hc5
  have hp5 := tn_j hn5
  refine tj_lookup (off := 77) (tgt := 78) ok dX7_signToken_1 (by decide) (by show Op.lookupswitch.offset [(43, 65), (46, 68), (59, 59), (61, 62), (123, 71), (125, 74)] (77) _ = _; simp only [Op.lookupswitch.offset, hp0, hp1, hp2, hp3, hp4, hp5, if_false]) (by decide) ?_
  refine tj_sub (lv' := []) [] rfl ?_
  exact (q_X7_signToken_78 hf).2 X g K ok nmx lev hK en
def f_X7_signToken (a0 : Int32) (h : AH) : Option (Int32 × AH) := b_X7_signToken_0  a0 h
theorem c_X7_signToken {a0 : Int32} {h hE : AH} {v : Int32} (hf : f_X7_signToken a0 h = some (v, hE)) : ∀ g : GT, CM g (2) yX7_signToken cX7_signToken 1 (some .int) h [.inl (a0)] hE (some (.inl (v))) :=
  CM.ofJ (by decide) (by show _ ≤ 1; exact Nat.le_of_ble_eq_true rfl) (q_X7_signToken_0 hf)
/-! ===== LitmusHouse$Scanner.scanSign(I)V ===== -/
def b_X7_scanSign_68  (h : AH) : Option (AH) :=
  some h
set_option maxHeartbeats 4000000 in
set_option maxRecDepth 100000 in
theorem q_X7_scanSign_68 {h hE : AH} (hf : b_X7_scanSign_68  h = some hE) : JD cX7_scanSign 2 RX7 "scanSign" none (3) 68 [] [] h hE none := by
  unfold b_X7_scanSign_68 at hf
  have hh := Option.some.inj hf
  subst hh
  have mE : hp_n h ≤ hp_n h ∧ hp_s h ≤ hp_s h := ⟨Nat.le_refl _, Nat.le_refl _⟩
  refine ⟨by omega, fun X g K ok nmx lev hK en => ?_⟩
  exact tj_return ok en dX7_scanSign_68
def b_X7_scanSign_52 (a0 : Nat) (h : AH) : Option (AH) :=
  (g_i h a0 7 5).bind fun x1 => (p_i h a0 7 5 (x1 + (1 : Int32))).bind fun h2 => (p_i h2 a0 7 0 (17 : Int32)).bind fun h3 => b_X7_scanSign_68 h3
set_option maxHeartbeats 4000000 in
set_option maxRecDepth 100000 in
theorem q_X7_scanSign_52 {a0 : Nat} {h hE : AH} (hf : b_X7_scanSign_52 a0 h = some hE) : JD cX7_scanSign 2 RX7 "scanSign" none (3) 52 [(0, .inr (.inr (a0)))] [] h hE none := by
  unfold b_X7_scanSign_52 at hf
  obtain ⟨x1, e1, hf⟩ := bnd hf
  obtain ⟨h2, e2, hf⟩ := bnd hf
  have m2 := nn_pi e2
  obtain ⟨h3, e3, hf⟩ := bnd hf
  have m3 := nn_pi e3
  have J := q_X7_scanSign_68 hf
  have mE := J.1
  refine ⟨by omega, fun X g K ok nmx lev hK en => ?_⟩
  refine tj_aload_n ok 0 dX7_scanSign_52 rfl rfl ?_
  refine tj_dupa ok dX7_scanSign_53 ?_
  refine tj_getI (k := 5) ok fcX7 (by decide) wm_120 rfl (Or.inl rfl) dX7_scanSign_54 e1 ?_
  refine tj_iconst (v := 1) ok dX7_scanSign_57 (by decide) ?_
  refine tj_iadd ok dX7_scanSign_58 ?_
  refine tj_putI (k := 5) ok fcX7 (by decide) wm_120 rfl (Or.inl rfl) rfl dX7_scanSign_59 e2 ?_
  refine tj_aload_n ok 0 dX7_scanSign_62 rfl rfl ?_
  refine tj_bipush (v := 17) ok dX7_scanSign_63 (by decide) ?_
  refine tj_putI (k := 0) ok fcX7 (by decide) wm_115 rfl (Or.inl rfl) rfl dX7_scanSign_65 e3 ?_
  refine tj_sub (lv' := []) [] rfl ?_
  exact J.2 X g K ok nmx lev hK en
def b_X7_scanSign_38 (a0 : Nat) (h : AH) : Option (AH) :=
  (g_r h a0 7 3).bind fun x1 => (g_i h a0 7 5).bind fun x2 => (l_i h x1 x2).bind fun x3 => if x3 = (61 : Int32) then b_X7_scanSign_52 a0 h else b_X7_scanSign_68 h
set_option maxHeartbeats 4000000 in
set_option maxRecDepth 100000 in
theorem q_X7_scanSign_38 {a0 : Nat} {h hE : AH} (hf : b_X7_scanSign_38 a0 h = some hE) : JD cX7_scanSign 2 RX7 "scanSign" none (3) 38 [(0, .inr (.inr (a0)))] [] h hE none := by
  unfold b_X7_scanSign_38 at hf
  obtain ⟨x1, e1, hf⟩ := bnd hf
  obtain ⟨x2, e2, hf⟩ := bnd hf
  obtain ⟨x3, e3, hf⟩ := bnd hf
  have mE : hp_n h ≤ hp_n hE ∧ hp_s h ≤ hp_s hE := by
    by_cases hc : x3 = (61 : Int32)
    · rw [if_pos hc] at hf; exact (q_X7_scanSign_52 hf).1
    · rw [if_neg hc] at hf; exact (q_X7_scanSign_68 hf).1
  refine ⟨by omega, fun X g K ok nmx lev hK en => ?_⟩
  refine tj_aload_n ok 0 dX7_scanSign_38 rfl rfl ?_
  refine tj_getR (k := 3) ok fcX7 (by decide) wm_118 rfl (Or.inr ⟨_, rfl⟩) dX7_scanSign_39 e1 ?_
  refine tj_aload_n ok 0 dX7_scanSign_42 rfl rfl ?_
  refine tj_getI (k := 5) ok fcX7 (by decide) wm_120 rfl (Or.inl rfl) dX7_scanSign_43 e2 ?_
  refine tj_iaload ok dX7_scanSign_46 e3 ?_
  refine tj_bipush (v := 61) ok dX7_scanSign_47 (by decide) ?_
  refine tj_icmp_ne (tgt := 68) ok dX7_scanSign_49 (by decide) (fun hc => ?_) (fun hc => ?_)
  · rw [if_neg hc] at hf
    refine tj_sub (lv' := []) [] rfl ?_
    exact (q_X7_scanSign_68 hf).2 X g K ok nmx lev hK en
  · rw [if_pos hc] at hf
    exact (q_X7_scanSign_52 hf).2 X g K ok nmx lev hK en
def b_X7_scanSign_27 (a0 : Nat) (h : AH) : Option (AH) :=
  (g_i h a0 7 5).bind fun x1 => (g_i h a0 7 4).bind fun x2 => if x2 ≤ x1 then b_X7_scanSign_68 h else b_X7_scanSign_38 a0 h
set_option maxHeartbeats 4000000 in
set_option maxRecDepth 100000 in
theorem q_X7_scanSign_27 {a0 : Nat} {h hE : AH} (hf : b_X7_scanSign_27 a0 h = some hE) : JD cX7_scanSign 2 RX7 "scanSign" none (3) 27 [(0, .inr (.inr (a0)))] [] h hE none := by
  unfold b_X7_scanSign_27 at hf
  obtain ⟨x1, e1, hf⟩ := bnd hf
  obtain ⟨x2, e2, hf⟩ := bnd hf
  have mE : hp_n h ≤ hp_n hE ∧ hp_s h ≤ hp_s hE := by
    by_cases hc : x2 ≤ x1
    · rw [if_pos hc] at hf; exact (q_X7_scanSign_68 hf).1
    · rw [if_neg hc] at hf; exact (q_X7_scanSign_38 hf).1
  refine ⟨by omega, fun X g K ok nmx lev hK en => ?_⟩
  refine tj_aload_n ok 0 dX7_scanSign_27 rfl rfl ?_
  refine tj_getI (k := 5) ok fcX7 (by decide) wm_120 rfl (Or.inl rfl) dX7_scanSign_28 e1 ?_
  refine tj_aload_n ok 0 dX7_scanSign_31 rfl rfl ?_
  refine tj_getI (k := 4) ok fcX7 (by decide) wm_119 rfl (Or.inl rfl) dX7_scanSign_32 e2 ?_
  refine tj_icmp_ge (tgt := 68) ok dX7_scanSign_35 (by decide) (fun hc => ?_) (fun hc => ?_)
  · rw [if_pos hc] at hf
    refine tj_sub (lv' := []) [] rfl ?_
    exact (q_X7_scanSign_68 hf).2 X g K ok nmx lev hK en
  · rw [if_neg hc] at hf
    exact (q_X7_scanSign_38 hf).2 X g K ok nmx lev hK en
def b_X7_scanSign_0 (a0 : Nat) (a1 : Int32) (h : AH) : Option (AH) :=
  (g_i h a0 7 5).bind fun x1 => (p_i h a0 7 5 (x1 + (1 : Int32))).bind fun h2 => (f_X7_signToken a1 h2).bind fun q3 => (p_i q3.2 a0 7 0 q3.1).bind fun h4 => (g_i h4 a0 7 0).bind fun x5 => if x5 = (16 : Int32) then b_X7_scanSign_27 a0 h4 else b_X7_scanSign_68 h4
set_option maxHeartbeats 4000000 in
set_option maxRecDepth 100000 in
theorem q_X7_scanSign_0 {a0 : Nat} {a1 : Int32} {h hE : AH} (hf : b_X7_scanSign_0 a0 a1 h = some hE) : JD cX7_scanSign 2 RX7 "scanSign" none (3) 0 [(0, .inr (.inr (a0))), (1, .inl (a1))] [] h hE none := by
  unfold b_X7_scanSign_0 at hf
  obtain ⟨x1, e1, hf⟩ := bnd hf
  obtain ⟨h2, e2, hf⟩ := bnd hf
  have m2 := nn_pi e2
  obtain ⟨⟨x3, h3⟩, e3, hf⟩ := bnd hf
  try dsimp only at hf
  have k3 := c_X7_signToken e3
  have m3 := (k3 default_g).1
  obtain ⟨h4, e4, hf⟩ := bnd hf
  have m4 := nn_pi e4
  obtain ⟨x5, e5, hf⟩ := bnd hf
  have mE : hp_n h4 ≤ hp_n hE ∧ hp_s h4 ≤ hp_s hE := by
    by_cases hc : x5 = (16 : Int32)
    · rw [if_pos hc] at hf; exact (q_X7_scanSign_27 hf).1
    · rw [if_neg hc] at hf; exact (q_X7_scanSign_68 hf).1
  refine ⟨by omega, fun X g K ok nmx lev hK en => ?_⟩
  refine tj_aload_n ok 0 dX7_scanSign_0 rfl rfl ?_
  refine tj_dupa ok dX7_scanSign_1 ?_
  refine tj_getI (k := 5) ok fcX7 (by decide) wm_120 rfl (Or.inl rfl) dX7_scanSign_2 e1 ?_
  refine tj_iconst (v := 1) ok dX7_scanSign_5 (by decide) ?_
  refine tj_iadd ok dX7_scanSign_6 ?_
  refine tj_putI (k := 5) ok fcX7 (by decide) wm_120 rfl (Or.inl rfl) rfl dX7_scanSign_7 e2 ?_
  refine tj_aload_n ok 0 dX7_scanSign_10 rfl rfl ?_
  refine tj_iload_n ok 1 dX7_scanSign_11 rfl rfl ?_
  refine tj_callS (rest := ([.inr (.inr (a0))] : List TV).map (vl g)) (as := [.inl (a1)]) ok lev (by omega) (k3 g) (CaX.of en (by omega)) kn_X7_signToken wm_993 wm_994 (rs_ok (Nat.le_of_ble_eq_true rfl)) rfl rfl dX7_scanSign_12 ?_
  refine tj_putI (k := 0) ok fcX7 (by decide) wm_115 rfl (Or.inl rfl) rfl dX7_scanSign_15 e4 ?_
  refine tj_aload_n ok 0 dX7_scanSign_18 rfl rfl ?_
  refine tj_getI (k := 0) ok fcX7 (by decide) wm_115 rfl (Or.inl rfl) dX7_scanSign_19 e5 ?_
  refine tj_bipush (v := 16) ok dX7_scanSign_22 (by decide) ?_
  refine tj_icmp_ne (tgt := 68) ok dX7_scanSign_24 (by decide) (fun hc => ?_) (fun hc => ?_)
  · rw [if_neg hc] at hf
    refine tj_sub (lv' := []) [] rfl ?_
    exact (q_X7_scanSign_68 hf).2 X g K ok nmx lev hK en
  · rw [if_pos hc] at hf
    refine tj_sub (lv' := [(0, .inr (.inr (a0)))]) [0] rfl ?_
    exact (q_X7_scanSign_27 hf).2 X g K ok nmx lev hK en
def f_X7_scanSign (a0 : Nat) (a1 : Int32) (h : AH) : Option (AH) := b_X7_scanSign_0  a0 a1 h
theorem c_X7_scanSign {a0 : Nat} {a1 : Int32} {h hE : AH} (hf : f_X7_scanSign a0 a1 h = some hE) : ∀ g : GT, CM g (3) yX7_scanSign cX7_scanSign 2 none h [.inr (.inr (a0)), .inl (a1)] hE none :=
  CM.ofJ (by decide) (by show _ ≤ 2; exact Nat.le_of_ble_eq_true rfl) (q_X7_scanSign_0 hf)
/-! ===== LitmusHouse$Scanner.isWord(Ljava/lang/String;)Z ===== -/
def b_X7_isWord_68  (h : AH) : Option (Int32 × AH) :=
  ok_z (1 : Int32) h
set_option maxHeartbeats 4000000 in
set_option maxRecDepth 100000 in
theorem q_X7_isWord_68 {h hE : AH} {v : Int32} (hf : b_X7_isWord_68  h = some (v, hE)) : JD cX7_isWord 3 RX7 "isWord" (some .boolean) (7) 68 [] [] h hE (some (.inl (v))) := by
  unfold b_X7_isWord_68 at hf
  have mE : hp_n h ≤ hp_n hE ∧ hp_s h ≤ hp_s hE := by obtain ⟨-, q⟩ := of_if hf; cases q; exact ⟨Nat.le_refl _, Nat.le_refl _⟩
  refine ⟨by omega, fun X g K ok nmx lev hK en => ?_⟩
  refine tj_iconst (v := 1) ok dX7_isWord_68 (by decide) ?_
  exact tj_zreturn ok hf en dX7_isWord_69
def b_X7_isWord_62 (r20 : Nat → Nat → Int32 → AH → Option (Int32 × AH)) (a0 : Nat) (a1 : Nat) (a2 : Int32) (h : AH) : Option (Int32 × AH) :=
  r20 a0 a1 (a2 + (1 : Int32)) h
set_option maxHeartbeats 4000000 in
set_option maxRecDepth 100000 in
theorem q_X7_isWord_62 {hE : AH} {v : Int32} {r20 : Nat → Nat → Int32 → AH → Option (Int32 × AH)} (hr20 : ∀ (b0 : Nat) (b1 : Nat) (b2 : Int32) (h : AH), r20 b0 b1 b2 h = some (v, hE) → JD cX7_isWord 3 RX7 "isWord" (some .boolean) (7) 20 [(0, .inr (.inr (b0))), (1, .inr (.inr (b1))), (2, .inl (b2))] [] h hE (some (.inl (v)))) {a0 : Nat} {a1 : Nat} {a2 : Int32} {h : AH} (hf : b_X7_isWord_62 r20 a0 a1 a2 h = some (v, hE)) : JD cX7_isWord 3 RX7 "isWord" (some .boolean) (7) 62 [(0, .inr (.inr (a0))), (1, .inr (.inr (a1))), (2, .inl (a2))] [] h hE (some (.inl (v))) := by
  unfold b_X7_isWord_62 at hf
  have J := hr20 _ _ _ _ hf
  have mE := J.1
  refine ⟨by omega, fun X g K ok nmx lev hK en => ?_⟩
  refine tj_iinc (lv' := [(0, .inr (.inr (a0))), (1, .inr (.inr (a1))), (2, .inl (a2 + (1 : Int32)))]) ok 2 dX7_isWord_62 rfl (rfl) (by decide) rfl ?_
  refine tj_goto (tgt := 20) ok dX7_isWord_65 (by decide) ?_
  exact J.2 X g K ok nmx lev hK en
def b_X7_isWord_60  (h : AH) : Option (Int32 × AH) :=
  ok_z (0 : Int32) h
set_option maxHeartbeats 4000000 in
set_option maxRecDepth 100000 in
theorem q_X7_isWord_60 {h hE : AH} {v : Int32} (hf : b_X7_isWord_60  h = some (v, hE)) : JD cX7_isWord 3 RX7 "isWord" (some .boolean) (7) 60 [] [] h hE (some (.inl (v))) := by
  unfold b_X7_isWord_60 at hf
  have mE : hp_n h ≤ hp_n hE ∧ hp_s h ≤ hp_s hE := by obtain ⟨-, q⟩ := of_if hf; cases q; exact ⟨Nat.le_refl _, Nat.le_refl _⟩
  refine ⟨by omega, fun X g K ok nmx lev hK en => ?_⟩
  refine tj_iconst (v := 0) ok dX7_isWord_60 (by decide) ?_
  exact tj_zreturn ok hf en dX7_isWord_61
def b_X7_isWord_41 (r20 : Nat → Nat → Int32 → AH → Option (Int32 × AH)) (a0 : Nat) (a1 : Nat) (a2 : Int32) (h : AH) : Option (Int32 × AH) :=
  (g_r h a0 7 3).bind fun x1 => (g_i h a0 7 2).bind fun x2 => (l_i h x1 (x2 + a2)).bind fun x3 => (f_J0_charAt a1 a2 h).bind fun q4 => if x3 = q4.1 then b_X7_isWord_62 r20 a0 a1 a2 q4.2 else b_X7_isWord_60 q4.2
set_option maxHeartbeats 4000000 in
set_option maxRecDepth 100000 in
theorem q_X7_isWord_41 {hE : AH} {v : Int32} {r20 : Nat → Nat → Int32 → AH → Option (Int32 × AH)} (hr20 : ∀ (b0 : Nat) (b1 : Nat) (b2 : Int32) (h : AH), r20 b0 b1 b2 h = some (v, hE) → JD cX7_isWord 3 RX7 "isWord" (some .boolean) (7) 20 [(0, .inr (.inr (b0))), (1, .inr (.inr (b1))), (2, .inl (b2))] [] h hE (some (.inl (v)))) {a0 : Nat} {a1 : Nat} {a2 : Int32} {h : AH} (hf : b_X7_isWord_41 r20 a0 a1 a2 h = some (v, hE)) : JD cX7_isWord 3 RX7 "isWord" (some .boolean) (7) 41 [(0, .inr (.inr (a0))), (1, .inr (.inr (a1))), (2, .inl (a2))] [] h hE (some (.inl (v))) := by
  unfold b_X7_isWord_41 at hf
  obtain ⟨x1, e1, hf⟩ := bnd hf
  obtain ⟨x2, e2, hf⟩ := bnd hf
  obtain ⟨x3, e3, hf⟩ := bnd hf
  obtain ⟨⟨x4, h4⟩, e4, hf⟩ := bnd hf
  try dsimp only at hf
  have k4 := c_J0_charAt e4
  have m4 := (k4 default_g).1
  have mE : hp_n h4 ≤ hp_n hE ∧ hp_s h4 ≤ hp_s hE := by
    by_cases hc : x3 = x4
    · rw [if_pos hc] at hf; exact (q_X7_isWord_62 hr20 hf).1
    · rw [if_neg hc] at hf; exact (q_X7_isWord_60 hf).1
  refine ⟨by omega, fun X g K ok nmx lev hK en => ?_⟩
  refine tj_aload_n ok 0 dX7_isWord_41 rfl rfl ?_
  refine tj_getR (k := 3) ok fcX7 (by decide) wm_118 rfl (Or.inr ⟨_, rfl⟩) dX7_isWord_42 e1 ?_
  refine tj_aload_n ok 0 dX7_isWord_45 rfl rfl ?_
  refine tj_getI (k := 2) ok fcX7 (by decide) wm_117 rfl (Or.inl rfl) dX7_isWord_46 e2 ?_
  refine tj_iload_n ok 2 dX7_isWord_49 rfl rfl ?_
  refine tj_iadd ok dX7_isWord_50 ?_
  refine tj_iaload ok dX7_isWord_51 e3 ?_
  refine tj_aload_n ok 1 dX7_isWord_52 rfl rfl ?_
  refine tj_iload_n ok 2 dX7_isWord_53 rfl rfl ?_
  refine tj_callT (rest := ([.inl (x3)] : List TV).map (vl g)) (as := [.inl (a2)]) ok lev (by omega) (k4 g) (CaX.of en (by omega)) (of_if e4).1.1 kn_J0_charAt rfl wm_996 wm_922 wm_923 (rs_ok (Nat.le_of_ble_eq_true rfl)) rfl rfl dX7_isWord_54 ?_
  refine tj_icmp_eq (tgt := 62) ok dX7_isWord_57 (by decide) (fun hc => ?_) (fun hc => ?_)
  · rw [if_pos hc] at hf
    exact (q_X7_isWord_62 hr20 hf).2 X g K ok nmx lev hK en
  · rw [if_neg hc] at hf
    refine tj_sub (lv' := []) [] rfl ?_
    exact (q_X7_isWord_60 hf).2 X g K ok nmx lev hK en
def b_X7_isWord_28 (r20 : Nat → Nat → Int32 → AH → Option (Int32 × AH)) (a0 : Nat) (a1 : Nat) (a2 : Int32) (h : AH) : Option (Int32 × AH) :=
  (g_i h a0 7 2).bind fun x1 => (g_i h a0 7 4).bind fun x2 => if x2 ≤ (x1 + a2) then b_X7_isWord_68 h else b_X7_isWord_41 r20 a0 a1 a2 h
set_option maxHeartbeats 4000000 in
set_option maxRecDepth 100000 in
theorem q_X7_isWord_28 {hE : AH} {v : Int32} {r20 : Nat → Nat → Int32 → AH → Option (Int32 × AH)} (hr20 : ∀ (b0 : Nat) (b1 : Nat) (b2 : Int32) (h : AH), r20 b0 b1 b2 h = some (v, hE) → JD cX7_isWord 3 RX7 "isWord" (some .boolean) (7) 20 [(0, .inr (.inr (b0))), (1, .inr (.inr (b1))), (2, .inl (b2))] [] h hE (some (.inl (v)))) {a0 : Nat} {a1 : Nat} {a2 : Int32} {h : AH} (hf : b_X7_isWord_28 r20 a0 a1 a2 h = some (v, hE)) : JD cX7_isWord 3 RX7 "isWord" (some .boolean) (7) 28 [(0, .inr (.inr (a0))), (1, .inr (.inr (a1))), (2, .inl (a2))] [] h hE (some (.inl (v))) := by
  unfold b_X7_isWord_28 at hf
  obtain ⟨x1, e1, hf⟩ := bnd hf
  obtain ⟨x2, e2, hf⟩ := bnd hf
  have mE : hp_n h ≤ hp_n hE ∧ hp_s h ≤ hp_s hE := by
    by_cases hc : x2 ≤ (x1 + a2)
    · rw [if_pos hc] at hf; exact (q_X7_isWord_68 hf).1
    · rw [if_neg hc] at hf; exact (q_X7_isWord_41 hr20 hf).1
  refine ⟨by omega, fun X g K ok nmx lev hK en => ?_⟩
  refine tj_aload_n ok 0 dX7_isWord_28 rfl rfl ?_
  refine tj_getI (k := 2) ok fcX7 (by decide) wm_117 rfl (Or.inl rfl) dX7_isWord_29 e1 ?_
  refine tj_iload_n ok 2 dX7_isWord_32 rfl rfl ?_
  refine tj_iadd ok dX7_isWord_33 ?_
  refine tj_aload_n ok 0 dX7_isWord_34 rfl rfl ?_
  refine tj_getI (k := 4) ok fcX7 (by decide) wm_119 rfl (Or.inl rfl) dX7_isWord_35 e2 ?_
  refine tj_icmp_ge (tgt := 68) ok dX7_isWord_38 (by decide) (fun hc => ?_) (fun hc => ?_)
  · rw [if_pos hc] at hf
    refine tj_sub (lv' := []) [] rfl ?_
    exact (q_X7_isWord_68 hf).2 X g K ok nmx lev hK en
  · rw [if_neg hc] at hf
    exact (q_X7_isWord_41 hr20 hf).2 X g K ok nmx lev hK en
def b_X7_isWord_20 (r20 : Nat → Nat → Int32 → AH → Option (Int32 × AH)) (a0 : Nat) (a1 : Nat) (a2 : Int32) (h : AH) : Option (Int32 × AH) :=
  (f_J0_length a1 h).bind fun q1 => if q1.1 ≤ a2 then b_X7_isWord_68 q1.2 else b_X7_isWord_28 r20 a0 a1 a2 q1.2
set_option maxHeartbeats 4000000 in
set_option maxRecDepth 100000 in
theorem q_X7_isWord_20 {hE : AH} {v : Int32} {r20 : Nat → Nat → Int32 → AH → Option (Int32 × AH)} (hr20 : ∀ (b0 : Nat) (b1 : Nat) (b2 : Int32) (h : AH), r20 b0 b1 b2 h = some (v, hE) → JD cX7_isWord 3 RX7 "isWord" (some .boolean) (7) 20 [(0, .inr (.inr (b0))), (1, .inr (.inr (b1))), (2, .inl (b2))] [] h hE (some (.inl (v)))) {a0 : Nat} {a1 : Nat} {a2 : Int32} {h : AH} (hf : b_X7_isWord_20 r20 a0 a1 a2 h = some (v, hE)) : JD cX7_isWord 3 RX7 "isWord" (some .boolean) (7) 20 [(0, .inr (.inr (a0))), (1, .inr (.inr (a1))), (2, .inl (a2))] [] h hE (some (.inl (v))) := by
  unfold b_X7_isWord_20 at hf
  obtain ⟨⟨x1, h1⟩, e1, hf⟩ := bnd hf
  try dsimp only at hf
  have k1 := c_J0_length e1
  have m1 := (k1 default_g).1
  have mE : hp_n h1 ≤ hp_n hE ∧ hp_s h1 ≤ hp_s hE := by
    by_cases hc : x1 ≤ a2
    · rw [if_pos hc] at hf; exact (q_X7_isWord_68 hf).1
    · rw [if_neg hc] at hf; exact (q_X7_isWord_28 hr20 hf).1
  refine ⟨by omega, fun X g K ok nmx lev hK en => ?_⟩
  refine tj_iload_n ok 2 dX7_isWord_20 rfl rfl ?_
  refine tj_aload_n ok 1 dX7_isWord_21 rfl rfl ?_
  refine tj_callT (rest := ([.inl (a2)] : List TV).map (vl g)) (as := []) ok lev (by omega) (k1 g) (CaX.of en (by omega)) (of_if e1).1 kn_J0_length rfl wm_997 wm_925 wm_926 (rs_ok (Nat.le_of_ble_eq_true rfl)) rfl rfl dX7_isWord_22 ?_
  refine tj_icmp_ge (tgt := 68) ok dX7_isWord_25 (by decide) (fun hc => ?_) (fun hc => ?_)
  · rw [if_pos hc] at hf
    refine tj_sub (lv' := []) [] rfl ?_
    exact (q_X7_isWord_68 hf).2 X g K ok nmx lev hK en
  · rw [if_neg hc] at hf
    exact (q_X7_isWord_28 hr20 hf).2 X g K ok nmx lev hK en
def l_X7_isWord_20 : Nat → Nat → Nat → Int32 → AH → Option (Int32 × AH)
  | 0 => fun _ _ _ _ => none
  | n + 1 => fun a0 a1 a2 h => b_X7_isWord_20 (l_X7_isWord_20 n) a0 a1 a2 h
theorem ql_X7_isWord_20 {n : Nat} {a0 : Nat} {a1 : Nat} {a2 : Int32} {h hE : AH} {v : Int32} (hf : l_X7_isWord_20 n a0 a1 a2 h = some (v, hE)) : JD cX7_isWord 3 RX7 "isWord" (some .boolean) (7) 20 [(0, .inr (.inr (a0))), (1, .inr (.inr (a1))), (2, .inl (a2))] [] h hE (some (.inl (v))) := by
  induction n generalizing a0 a1 a2 h with
  | zero => cases hf
  | succ n ih => exact q_X7_isWord_20 (fun _ _ _ _ hf => ih hf) hf
def b_X7_isWord_18 (a0 : Nat) (a1 : Nat) (h : AH) : Option (Int32 × AH) :=
  l_X7_isWord_20 fu_ a0 a1 (0 : Int32) h
set_option maxHeartbeats 4000000 in
set_option maxRecDepth 100000 in
theorem q_X7_isWord_18 {a0 : Nat} {a1 : Nat} {h hE : AH} {v : Int32} (hf : b_X7_isWord_18 a0 a1 h = some (v, hE)) : JD cX7_isWord 3 RX7 "isWord" (some .boolean) (7) 18 [(0, .inr (.inr (a0))), (1, .inr (.inr (a1)))] [] h hE (some (.inl (v))) := by
  unfold b_X7_isWord_18 at hf
  have J := ql_X7_isWord_20 hf
  have mE := J.1
  refine ⟨by omega, fun X g K ok nmx lev hK en => ?_⟩
  refine tj_iconst (v := 0) ok dX7_isWord_18 (by decide) ?_
  refine tj_istore_n (lv' := [(0, .inr (.inr (a0))), (1, .inr (.inr (a1))), (2, .inl ((0 : Int32)))]) ok dX7_isWord_19 rfl (by decide) rfl ?_
  exact J.2 X g K ok nmx lev hK en
def b_X7_isWord_16  (h : AH) : Option (Int32 × AH) :=
  ok_z (0 : Int32) h
set_option maxHeartbeats 4000000 in
set_option maxRecDepth 100000 in
theorem q_X7_isWord_16 {h hE : AH} {v : Int32} (hf : b_X7_isWord_16  h = some (v, hE)) : JD cX7_isWord 3 RX7 "isWord" (some .boolean) (7) 16 [] [] h hE (some (.inl (v))) := by
  unfold b_X7_isWord_16 at hf
  have mE : hp_n h ≤ hp_n hE ∧ hp_s h ≤ hp_s hE := by obtain ⟨-, q⟩ := of_if hf; cases q; exact ⟨Nat.le_refl _, Nat.le_refl _⟩
  refine ⟨by omega, fun X g K ok nmx lev hK en => ?_⟩
  refine tj_iconst (v := 0) ok dX7_isWord_16 (by decide) ?_
  exact tj_zreturn ok hf en dX7_isWord_17
def b_X7_isWord_0 (a0 : Nat) (a1 : Nat) (h : AH) : Option (Int32 × AH) :=
  (f_J0_length a1 h).bind fun q1 => (g_i q1.2 a0 7 5).bind fun x2 => (g_i q1.2 a0 7 2).bind fun x3 => if q1.1 = (x2 - x3) then b_X7_isWord_18 a0 a1 q1.2 else b_X7_isWord_16 q1.2
set_option maxHeartbeats 4000000 in
set_option maxRecDepth 100000 in
theorem q_X7_isWord_0 {a0 : Nat} {a1 : Nat} {h hE : AH} {v : Int32} (hf : b_X7_isWord_0 a0 a1 h = some (v, hE)) : JD cX7_isWord 3 RX7 "isWord" (some .boolean) (7) 0 [(0, .inr (.inr (a0))), (1, .inr (.inr (a1)))] [] h hE (some (.inl (v))) := by
  unfold b_X7_isWord_0 at hf
  obtain ⟨⟨x1, h1⟩, e1, hf⟩ := bnd hf
  try dsimp only at hf
  have k1 := c_J0_length e1
  have m1 := (k1 default_g).1
  obtain ⟨x2, e2, hf⟩ := bnd hf
  obtain ⟨x3, e3, hf⟩ := bnd hf
  have mE : hp_n h1 ≤ hp_n hE ∧ hp_s h1 ≤ hp_s hE := by
    by_cases hc : x1 = (x2 - x3)
    · rw [if_pos hc] at hf; exact (q_X7_isWord_18 hf).1
    · rw [if_neg hc] at hf; exact (q_X7_isWord_16 hf).1
  refine ⟨by omega, fun X g K ok nmx lev hK en => ?_⟩
  refine tj_aload_n ok 1 dX7_isWord_0 rfl rfl ?_
  refine tj_callT (rest := ([] : List TV).map (vl g)) (as := []) ok lev (by omega) (k1 g) (CaX.of en (by omega)) (of_if e1).1 kn_J0_length rfl wm_997 wm_925 wm_926 (rs_ok (Nat.le_of_ble_eq_true rfl)) rfl rfl dX7_isWord_1 ?_
  refine tj_aload_n ok 0 dX7_isWord_4 rfl rfl ?_
  refine tj_getI (k := 5) ok fcX7 (by decide) wm_120 rfl (Or.inl rfl) dX7_isWord_5 e2 ?_
  refine tj_aload_n ok 0 dX7_isWord_8 rfl rfl ?_
  refine tj_getI (k := 2) ok fcX7 (by decide) wm_117 rfl (Or.inl rfl) dX7_isWord_9 e3 ?_
  refine tj_isub ok dX7_isWord_12 ?_
  refine tj_icmp_eq (tgt := 18) ok dX7_isWord_13 (by decide) (fun hc => ?_) (fun hc => ?_)
  · rw [if_pos hc] at hf
    exact (q_X7_isWord_18 hf).2 X g K ok nmx lev hK en
  · rw [if_neg hc] at hf
    refine tj_sub (lv' := []) [] rfl ?_
    exact (q_X7_isWord_16 hf).2 X g K ok nmx lev hK en
def f_X7_isWord (a0 : Nat) (a1 : Nat) (h : AH) : Option (Int32 × AH) := b_X7_isWord_0  a0 a1 h
theorem c_X7_isWord {a0 : Nat} {a1 : Nat} {h hE : AH} {v : Int32} (hf : f_X7_isWord a0 a1 h = some (v, hE)) : ∀ g : GT, CM g (7) yX7_isWord cX7_isWord 3 (some .boolean) h [.inr (.inr (a0)), .inr (.inr (a1))] hE (some (.inl (v))) :=
  CM.ofJ (by decide) (by show _ ≤ 3; exact Nat.le_of_ble_eq_true rfl) (q_X7_isWord_0 hf)
/-! ===== LitmusHouse$Scanner.longWord()I ===== -/
def b_X7_longWord_95 (s0 : Int32) (h : AH) : Option (Int32 × AH) :=
  some (s0, h)
set_option maxHeartbeats 4000000 in
set_option maxRecDepth 100000 in
theorem q_X7_longWord_95 {s0 : Int32} {h hE : AH} {v : Int32} (hf : b_X7_longWord_95 s0 h = some (v, hE)) : JD cX7_longWord 1 RX7 "longWord" (some .int) (8) 95 [] [.inl (s0)] h hE (some (.inl (v))) := by
  unfold b_X7_longWord_95 at hf
  obtain ⟨hv, hh⟩ := Prod.mk.inj (Option.some.inj hf)
  subst hv
  subst hh
  have mE : hp_n h ≤ hp_n h ∧ hp_s h ≤ hp_s h := ⟨Nat.le_refl _, Nat.le_refl _⟩
  refine ⟨by omega, fun X g K ok nmx lev hK en => ?_⟩
  exact tj_ireturn ok en dX7_longWord_95
def b_X7_longWord_94  (h : AH) : Option (Int32 × AH) :=
  b_X7_longWord_95 (1 : Int32) h
set_option maxHeartbeats 4000000 in
set_option maxRecDepth 100000 in
theorem q_X7_longWord_94 {h hE : AH} {v : Int32} (hf : b_X7_longWord_94  h = some (v, hE)) : JD cX7_longWord 1 RX7 "longWord" (some .int) (8) 94 [] [] h hE (some (.inl (v))) := by
  unfold b_X7_longWord_94 at hf
  have J := q_X7_longWord_95 hf
  have mE := J.1
  refine ⟨by omega, fun X g K ok nmx lev hK en => ?_⟩
  refine tj_iconst (v := 1) ok dX7_longWord_94 (by decide) ?_
  exact J.2 X g K ok nmx lev hK en
def b_X7_longWord_89  (h : AH) : Option (Int32 × AH) :=
  b_X7_longWord_95 (10 : Int32) h
set_option maxHeartbeats 4000000 in
set_option maxRecDepth 100000 in
theorem q_X7_longWord_89 {h hE : AH} {v : Int32} (hf : b_X7_longWord_89  h = some (v, hE)) : JD cX7_longWord 1 RX7 "longWord" (some .int) (8) 89 [] [] h hE (some (.inl (v))) := by
  unfold b_X7_longWord_89 at hf
  have J := q_X7_longWord_95 hf
  have mE := J.1
  refine ⟨by omega, fun X g K ok nmx lev hK en => ?_⟩
  refine tj_bipush (v := 10) ok dX7_longWord_89 (by decide) ?_
  refine tj_goto (tgt := 95) ok dX7_longWord_91 (by decide) ?_
  exact J.2 X g K ok nmx lev hK en
def b_X7_longWord_80 (a0 : Nat) (h : AH) : Option (Int32 × AH) :=
  (ok_v h a0 7).bind fun x1 => (f_X7_isWord a0 9 h).bind fun q2 => if q2.1 = 0 then b_X7_longWord_94 q2.2 else b_X7_longWord_89 q2.2
set_option maxHeartbeats 4000000 in
set_option maxRecDepth 100000 in
theorem q_X7_longWord_80 {a0 : Nat} {h hE : AH} {v : Int32} (hf : b_X7_longWord_80 a0 h = some (v, hE)) : JD cX7_longWord 1 RX7 "longWord" (some .int) (8) 80 [(0, .inr (.inr (a0)))] [] h hE (some (.inl (v))) := by
  unfold b_X7_longWord_80 at hf
  obtain ⟨x1, e1, hf⟩ := bnd hf
  obtain ⟨⟨x2, h2⟩, e2, hf⟩ := bnd hf
  try dsimp only at hf
  have k2 := c_X7_isWord e2
  have m2 := (k2 default_g).1
  have mE : hp_n h2 ≤ hp_n hE ∧ hp_s h2 ≤ hp_s hE := by
    by_cases hc : x2 = 0
    · rw [if_pos hc] at hf; exact (q_X7_longWord_94 hf).1
    · rw [if_neg hc] at hf; exact (q_X7_longWord_89 hf).1
  refine ⟨by omega, fun X g K ok nmx lev hK en => ?_⟩
  refine tj_aload_n ok 0 dX7_longWord_80 rfl rfl ?_
  refine tj_ldcS (r := 9) ok (i := 8) rfl ⟨by decide, by decide⟩ dX7_longWord_81 ?_
  refine tj_callV (rest := ([] : List TV).map (vl g)) (as := [.inr (.inr (9))]) ok lev (by omega) fcX7.1 (by decide) rfl (of_if e1).1 (k2 g) (CaX.of en (by omega)) kn_X7_isWord wm_999 wm_1000 wm_1001 (rs_ok (Nat.le_of_ble_eq_true rfl)) rfl rfl dX7_longWord_83 ?_
  refine tj_if_eq (tgt := 94) ok dX7_longWord_86 (by decide) (fun hc => ?_) (fun hc => ?_)
  · rw [if_pos hc] at hf
    refine tj_sub (lv' := []) [] rfl ?_
    exact (q_X7_longWord_94 hf).2 X g K ok nmx lev hK en
  · rw [if_neg hc] at hf
    refine tj_sub (lv' := []) [] rfl ?_
    exact (q_X7_longWord_89 hf).2 X g K ok nmx lev hK en
def b_X7_longWord_77  (h : AH) : Option (Int32 × AH) :=
  some ((8 : Int32), h)
set_option maxHeartbeats 4000000 in
set_option maxRecDepth 100000 in
theorem q_X7_longWord_77 {h hE : AH} {v : Int32} (hf : b_X7_longWord_77  h = some (v, hE)) : JD cX7_longWord 1 RX7 "longWord" (some .int) (8) 77 [] [] h hE (some (.inl (v))) := by
  unfold b_X7_longWord_77 at hf
  obtain ⟨hv, hh⟩ := Prod.mk.inj (Option.some.inj hf)
  subst hv
  subst hh
  have mE : hp_n h ≤ hp_n h ∧ hp_s h ≤ hp_s h := ⟨Nat.le_refl _, Nat.le_refl _⟩
  refine ⟨by omega, fun X g K ok nmx lev hK en => ?_⟩
  refine tj_bipush (v := 8) ok dX7_longWord_77 (by decide) ?_
  exact tj_ireturn ok en dX7_longWord_79
def b_X7_longWord_68 (a0 : Nat) (h : AH) : Option (Int32 × AH) :=
  (ok_v h a0 7).bind fun x1 => (f_X7_isWord a0 8 h).bind fun q2 => if q2.1 = 0 then b_X7_longWord_80 a0 q2.2 else b_X7_longWord_77 q2.2
set_option maxHeartbeats 4000000 in
set_option maxRecDepth 100000 in
theorem q_X7_longWord_68 {a0 : Nat} {h hE : AH} {v : Int32} (hf : b_X7_longWord_68 a0 h = some (v, hE)) : JD cX7_longWord 1 RX7 "longWord" (some .int) (8) 68 [(0, .inr (.inr (a0)))] [] h hE (some (.inl (v))) := by
  unfold b_X7_longWord_68 at hf
  obtain ⟨x1, e1, hf⟩ := bnd hf
  obtain ⟨⟨x2, h2⟩, e2, hf⟩ := bnd hf
  try dsimp only at hf
  have k2 := c_X7_isWord e2
  have m2 := (k2 default_g).1
  have mE : hp_n h2 ≤ hp_n hE ∧ hp_s h2 ≤ hp_s hE := by
    by_cases hc : x2 = 0
    · rw [if_pos hc] at hf; exact (q_X7_longWord_80 hf).1
    · rw [if_neg hc] at hf; exact (q_X7_longWord_77 hf).1
  refine ⟨by omega, fun X g K ok nmx lev hK en => ?_⟩
  refine tj_aload_n ok 0 dX7_longWord_68 rfl rfl ?_
  refine tj_ldcS (r := 8) ok (i := 7) rfl ⟨by decide, by decide⟩ dX7_longWord_69 ?_
  refine tj_callV (rest := ([] : List TV).map (vl g)) (as := [.inr (.inr (8))]) ok lev (by omega) fcX7.1 (by decide) rfl (of_if e1).1 (k2 g) (CaX.of en (by omega)) kn_X7_isWord wm_999 wm_1000 wm_1001 (rs_ok (Nat.le_of_ble_eq_true rfl)) rfl rfl dX7_longWord_71 ?_
  refine tj_if_eq (tgt := 80) ok dX7_longWord_74 (by decide) (fun hc => ?_) (fun hc => ?_)
  · rw [if_pos hc] at hf
    exact (q_X7_longWord_80 hf).2 X g K ok nmx lev hK en
  · rw [if_neg hc] at hf
    refine tj_sub (lv' := []) [] rfl ?_
    exact (q_X7_longWord_77 hf).2 X g K ok nmx lev hK en
def b_X7_longWord_65  (h : AH) : Option (Int32 × AH) :=
  some ((7 : Int32), h)
set_option maxHeartbeats 4000000 in
set_option maxRecDepth 100000 in
theorem q_X7_longWord_65 {h hE : AH} {v : Int32} (hf : b_X7_longWord_65  h = some (v, hE)) : JD cX7_longWord 1 RX7 "longWord" (some .int) (8) 65 [] [] h hE (some (.inl (v))) := by
  unfold b_X7_longWord_65 at hf
  obtain ⟨hv, hh⟩ := Prod.mk.inj (Option.some.inj hf)
  subst hv
  subst hh
  have mE : hp_n h ≤ hp_n h ∧ hp_s h ≤ hp_s h := ⟨Nat.le_refl _, Nat.le_refl _⟩
  refine ⟨by omega, fun X g K ok nmx lev hK en => ?_⟩
  refine tj_bipush (v := 7) ok dX7_longWord_65 (by decide) ?_
  exact tj_ireturn ok en dX7_longWord_67
def b_X7_longWord_56 (a0 : Nat) (h : AH) : Option (Int32 × AH) :=
  (ok_v h a0 7).bind fun x1 => (f_X7_isWord a0 7 h).bind fun q2 => if q2.1 = 0 then b_X7_longWord_68 a0 q2.2 else b_X7_longWord_65 q2.2
set_option maxHeartbeats 4000000 in
set_option maxRecDepth 100000 in
theorem q_X7_longWord_56 {a0 : Nat} {h hE : AH} {v : Int32} (hf : b_X7_longWord_56 a0 h = some (v, hE)) : JD cX7_longWord 1 RX7 "longWord" (some .int) (8) 56 [(0, .inr (.inr (a0)))] [] h hE (some (.inl (v))) := by
  unfold b_X7_longWord_56 at hf
  obtain ⟨x1, e1, hf⟩ := bnd hf
  obtain ⟨⟨x2, h2⟩, e2, hf⟩ := bnd hf
  try dsimp only at hf
  have k2 := c_X7_isWord e2
  have m2 := (k2 default_g).1
  have mE : hp_n h2 ≤ hp_n hE ∧ hp_s h2 ≤ hp_s hE := by
    by_cases hc : x2 = 0
    · rw [if_pos hc] at hf; exact (q_X7_longWord_68 hf).1
    · rw [if_neg hc] at hf; exact (q_X7_longWord_65 hf).1
  refine ⟨by omega, fun X g K ok nmx lev hK en => ?_⟩
  refine tj_aload_n ok 0 dX7_longWord_56 rfl rfl ?_
  refine tj_ldcS (r := 7) ok (i := 6) rfl ⟨by decide, by decide⟩ dX7_longWord_57 ?_
  refine tj_callV (rest := ([] : List TV).map (vl g)) (as := [.inr (.inr (7))]) ok lev (by omega) fcX7.1 (by decide) rfl (of_if e1).1 (k2 g) (CaX.of en (by omega)) kn_X7_isWord wm_999 wm_1000 wm_1001 (rs_ok (Nat.le_of_ble_eq_true rfl)) rfl rfl dX7_longWord_59 ?_
  refine tj_if_eq (tgt := 68) ok dX7_longWord_62 (by decide) (fun hc => ?_) (fun hc => ?_)
  · rw [if_pos hc] at hf
    exact (q_X7_longWord_68 hf).2 X g K ok nmx lev hK en
  · rw [if_neg hc] at hf
    refine tj_sub (lv' := []) [] rfl ?_
    exact (q_X7_longWord_65 hf).2 X g K ok nmx lev hK en
def b_X7_longWord_53  (h : AH) : Option (Int32 × AH) :=
  some ((6 : Int32), h)
set_option maxHeartbeats 4000000 in
set_option maxRecDepth 100000 in
theorem q_X7_longWord_53 {h hE : AH} {v : Int32} (hf : b_X7_longWord_53  h = some (v, hE)) : JD cX7_longWord 1 RX7 "longWord" (some .int) (8) 53 [] [] h hE (some (.inl (v))) := by
  unfold b_X7_longWord_53 at hf
  obtain ⟨hv, hh⟩ := Prod.mk.inj (Option.some.inj hf)
  subst hv
  subst hh
  have mE : hp_n h ≤ hp_n h ∧ hp_s h ≤ hp_s h := ⟨Nat.le_refl _, Nat.le_refl _⟩
  refine ⟨by omega, fun X g K ok nmx lev hK en => ?_⟩
  refine tj_bipush (v := 6) ok dX7_longWord_53 (by decide) ?_
  exact tj_ireturn ok en dX7_longWord_55
def b_X7_longWord_44 (a0 : Nat) (h : AH) : Option (Int32 × AH) :=
  (ok_v h a0 7).bind fun x1 => (f_X7_isWord a0 6 h).bind fun q2 => if q2.1 = 0 then b_X7_longWord_56 a0 q2.2 else b_X7_longWord_53 q2.2
set_option maxHeartbeats 4000000 in
set_option maxRecDepth 100000 in
theorem q_X7_longWord_44 {a0 : Nat} {h hE : AH} {v : Int32} (hf : b_X7_longWord_44 a0 h = some (v, hE)) : JD cX7_longWord 1 RX7 "longWord" (some .int) (8) 44 [(0, .inr (.inr (a0)))] [] h hE (some (.inl (v))) := by
  unfold b_X7_longWord_44 at hf
  obtain ⟨x1, e1, hf⟩ := bnd hf
  obtain ⟨⟨x2, h2⟩, e2, hf⟩ := bnd hf
  try dsimp only at hf
  have k2 := c_X7_isWord e2
  have m2 := (k2 default_g).1
  have mE : hp_n h2 ≤ hp_n hE ∧ hp_s h2 ≤ hp_s hE := by
    by_cases hc : x2 = 0
    · rw [if_pos hc] at hf; exact (q_X7_longWord_56 hf).1
    · rw [if_neg hc] at hf; exact (q_X7_longWord_53 hf).1
  refine ⟨by omega, fun X g K ok nmx lev hK en => ?_⟩
  refine tj_aload_n ok 0 dX7_longWord_44 rfl rfl ?_
  refine tj_ldcS (r := 6) ok (i := 5) rfl ⟨by decide, by decide⟩ dX7_longWord_45 ?_
  refine tj_callV (rest := ([] : List TV).map (vl g)) (as := [.inr (.inr (6))]) ok lev (by omega) fcX7.1 (by decide) rfl (of_if e1).1 (k2 g) (CaX.of en (by omega)) kn_X7_isWord wm_999 wm_1000 wm_1001 (rs_ok (Nat.le_of_ble_eq_true rfl)) rfl rfl dX7_longWord_47 ?_
  refine tj_if_eq (tgt := 56) ok dX7_longWord_50 (by decide) (fun hc => ?_) (fun hc => ?_)
  · rw [if_pos hc] at hf
    exact (q_X7_longWord_56 hf).2 X g K ok nmx lev hK en
  · rw [if_neg hc] at hf
    refine tj_sub (lv' := []) [] rfl ?_
    exact (q_X7_longWord_53 hf).2 X g K ok nmx lev hK en
def b_X7_longWord_42  (h : AH) : Option (Int32 × AH) :=
  some ((5 : Int32), h)
set_option maxHeartbeats 4000000 in
set_option maxRecDepth 100000 in
theorem q_X7_longWord_42 {h hE : AH} {v : Int32} (hf : b_X7_longWord_42  h = some (v, hE)) : JD cX7_longWord 1 RX7 "longWord" (some .int) (8) 42 [] [] h hE (some (.inl (v))) := by
  unfold b_X7_longWord_42 at hf
  obtain ⟨hv, hh⟩ := Prod.mk.inj (Option.some.inj hf)
  subst hv
  subst hh
  have mE : hp_n h ≤ hp_n h ∧ hp_s h ≤ hp_s h := ⟨Nat.le_refl _, Nat.le_refl _⟩
  refine ⟨by omega, fun X g K ok nmx lev hK en => ?_⟩
  refine tj_iconst (v := 5) ok dX7_longWord_42 (by decide) ?_
  exact tj_ireturn ok en dX7_longWord_43
def b_X7_longWord_33 (a0 : Nat) (h : AH) : Option (Int32 × AH) :=
  (ok_v h a0 7).bind fun x1 => (f_X7_isWord a0 5 h).bind fun q2 => if q2.1 = 0 then b_X7_longWord_44 a0 q2.2 else b_X7_longWord_42 q2.2
set_option maxHeartbeats 4000000 in
set_option maxRecDepth 100000 in
theorem q_X7_longWord_33 {a0 : Nat} {h hE : AH} {v : Int32} (hf : b_X7_longWord_33 a0 h = some (v, hE)) : JD cX7_longWord 1 RX7 "longWord" (some .int) (8) 33 [(0, .inr (.inr (a0)))] [] h hE (some (.inl (v))) := by
  unfold b_X7_longWord_33 at hf
  obtain ⟨x1, e1, hf⟩ := bnd hf
  obtain ⟨⟨x2, h2⟩, e2, hf⟩ := bnd hf
  try dsimp only at hf
  have k2 := c_X7_isWord e2
  have m2 := (k2 default_g).1
  have mE : hp_n h2 ≤ hp_n hE ∧ hp_s h2 ≤ hp_s hE := by
    by_cases hc : x2 = 0
    · rw [if_pos hc] at hf; exact (q_X7_longWord_44 hf).1
    · rw [if_neg hc] at hf; exact (q_X7_longWord_42 hf).1
  refine ⟨by omega, fun X g K ok nmx lev hK en => ?_⟩
  refine tj_aload_n ok 0 dX7_longWord_33 rfl rfl ?_
  refine tj_ldcS (r := 5) ok (i := 4) rfl ⟨by decide, by decide⟩ dX7_longWord_34 ?_
  refine tj_callV (rest := ([] : List TV).map (vl g)) (as := [.inr (.inr (5))]) ok lev (by omega) fcX7.1 (by decide) rfl (of_if e1).1 (k2 g) (CaX.of en (by omega)) kn_X7_isWord wm_999 wm_1000 wm_1001 (rs_ok (Nat.le_of_ble_eq_true rfl)) rfl rfl dX7_longWord_36 ?_
  refine tj_if_eq (tgt := 44) ok dX7_longWord_39 (by decide) (fun hc => ?_) (fun hc => ?_)
  · rw [if_pos hc] at hf
    exact (q_X7_longWord_44 hf).2 X g K ok nmx lev hK en
  · rw [if_neg hc] at hf
    refine tj_sub (lv' := []) [] rfl ?_
    exact (q_X7_longWord_42 hf).2 X g K ok nmx lev hK en
def b_X7_longWord_31  (h : AH) : Option (Int32 × AH) :=
  some ((4 : Int32), h)
set_option maxHeartbeats 4000000 in
set_option maxRecDepth 100000 in
theorem q_X7_longWord_31 {h hE : AH} {v : Int32} (hf : b_X7_longWord_31  h = some (v, hE)) : JD cX7_longWord 1 RX7 "longWord" (some .int) (8) 31 [] [] h hE (some (.inl (v))) := by
  unfold b_X7_longWord_31 at hf
  obtain ⟨hv, hh⟩ := Prod.mk.inj (Option.some.inj hf)
  subst hv
  subst hh
  have mE : hp_n h ≤ hp_n h ∧ hp_s h ≤ hp_s h := ⟨Nat.le_refl _, Nat.le_refl _⟩
  refine ⟨by omega, fun X g K ok nmx lev hK en => ?_⟩
  refine tj_iconst (v := 4) ok dX7_longWord_31 (by decide) ?_
  exact tj_ireturn ok en dX7_longWord_32
def b_X7_longWord_22 (a0 : Nat) (h : AH) : Option (Int32 × AH) :=
  (ok_v h a0 7).bind fun x1 => (f_X7_isWord a0 4 h).bind fun q2 => if q2.1 = 0 then b_X7_longWord_33 a0 q2.2 else b_X7_longWord_31 q2.2
set_option maxHeartbeats 4000000 in
set_option maxRecDepth 100000 in
theorem q_X7_longWord_22 {a0 : Nat} {h hE : AH} {v : Int32} (hf : b_X7_longWord_22 a0 h = some (v, hE)) : JD cX7_longWord 1 RX7 "longWord" (some .int) (8) 22 [(0, .inr (.inr (a0)))] [] h hE (some (.inl (v))) := by
  unfold b_X7_longWord_22 at hf
  obtain ⟨x1, e1, hf⟩ := bnd hf
  obtain ⟨⟨x2, h2⟩, e2, hf⟩ := bnd hf
  try dsimp only at hf
  have k2 := c_X7_isWord e2
  have m2 := (k2 default_g).1
  have mE : hp_n h2 ≤ hp_n hE ∧ hp_s h2 ≤ hp_s hE := by
    by_cases hc : x2 = 0
    · rw [if_pos hc] at hf; exact (q_X7_longWord_33 hf).1
    · rw [if_neg hc] at hf; exact (q_X7_longWord_31 hf).1
  refine ⟨by omega, fun X g K ok nmx lev hK en => ?_⟩
  refine tj_aload_n ok 0 dX7_longWord_22 rfl rfl ?_
  refine tj_ldcS (r := 4) ok (i := 3) rfl ⟨by decide, by decide⟩ dX7_longWord_23 ?_
  refine tj_callV (rest := ([] : List TV).map (vl g)) (as := [.inr (.inr (4))]) ok lev (by omega) fcX7.1 (by decide) rfl (of_if e1).1 (k2 g) (CaX.of en (by omega)) kn_X7_isWord wm_999 wm_1000 wm_1001 (rs_ok (Nat.le_of_ble_eq_true rfl)) rfl rfl dX7_longWord_25 ?_
  refine tj_if_eq (tgt := 33) ok dX7_longWord_28 (by decide) (fun hc => ?_) (fun hc => ?_)
  · rw [if_pos hc] at hf
    exact (q_X7_longWord_33 hf).2 X g K ok nmx lev hK en
  · rw [if_neg hc] at hf
    refine tj_sub (lv' := []) [] rfl ?_
    exact (q_X7_longWord_31 hf).2 X g K ok nmx lev hK en
def b_X7_longWord_20  (h : AH) : Option (Int32 × AH) :=
  some ((3 : Int32), h)
set_option maxHeartbeats 4000000 in
set_option maxRecDepth 100000 in
theorem q_X7_longWord_20 {h hE : AH} {v : Int32} (hf : b_X7_longWord_20  h = some (v, hE)) : JD cX7_longWord 1 RX7 "longWord" (some .int) (8) 20 [] [] h hE (some (.inl (v))) := by
  unfold b_X7_longWord_20 at hf
  obtain ⟨hv, hh⟩ := Prod.mk.inj (Option.some.inj hf)
  subst hv
  subst hh
  have mE : hp_n h ≤ hp_n h ∧ hp_s h ≤ hp_s h := ⟨Nat.le_refl _, Nat.le_refl _⟩
  refine ⟨by omega, fun X g K ok nmx lev hK en => ?_⟩
  refine tj_iconst (v := 3) ok dX7_longWord_20 (by decide) ?_
  exact tj_ireturn ok en dX7_longWord_21
def b_X7_longWord_11 (a0 : Nat) (h : AH) : Option (Int32 × AH) :=
  (ok_v h a0 7).bind fun x1 => (f_X7_isWord a0 3 h).bind fun q2 => if q2.1 = 0 then b_X7_longWord_22 a0 q2.2 else b_X7_longWord_20 q2.2
set_option maxHeartbeats 4000000 in
set_option maxRecDepth 100000 in
theorem q_X7_longWord_11 {a0 : Nat} {h hE : AH} {v : Int32} (hf : b_X7_longWord_11 a0 h = some (v, hE)) : JD cX7_longWord 1 RX7 "longWord" (some .int) (8) 11 [(0, .inr (.inr (a0)))] [] h hE (some (.inl (v))) := by
  unfold b_X7_longWord_11 at hf
  obtain ⟨x1, e1, hf⟩ := bnd hf
  obtain ⟨⟨x2, h2⟩, e2, hf⟩ := bnd hf
  try dsimp only at hf
  have k2 := c_X7_isWord e2
  have m2 := (k2 default_g).1
  have mE : hp_n h2 ≤ hp_n hE ∧ hp_s h2 ≤ hp_s hE := by
    by_cases hc : x2 = 0
    · rw [if_pos hc] at hf; exact (q_X7_longWord_22 hf).1
    · rw [if_neg hc] at hf; exact (q_X7_longWord_20 hf).1
  refine ⟨by omega, fun X g K ok nmx lev hK en => ?_⟩
  refine tj_aload_n ok 0 dX7_longWord_11 rfl rfl ?_
  refine tj_ldcS (r := 3) ok (i := 2) rfl ⟨by decide, by decide⟩ dX7_longWord_12 ?_
  refine tj_callV (rest := ([] : List TV).map (vl g)) (as := [.inr (.inr (3))]) ok lev (by omega) fcX7.1 (by decide) rfl (of_if e1).1 (k2 g) (CaX.of en (by omega)) kn_X7_isWord wm_999 wm_1000 wm_1001 (rs_ok (Nat.le_of_ble_eq_true rfl)) rfl rfl dX7_longWord_14 ?_
  refine tj_if_eq (tgt := 22) ok dX7_longWord_17 (by decide) (fun hc => ?_) (fun hc => ?_)
  · rw [if_pos hc] at hf
    exact (q_X7_longWord_22 hf).2 X g K ok nmx lev hK en
  · rw [if_neg hc] at hf
    refine tj_sub (lv' := []) [] rfl ?_
    exact (q_X7_longWord_20 hf).2 X g K ok nmx lev hK en
def b_X7_longWord_9  (h : AH) : Option (Int32 × AH) :=
  some ((2 : Int32), h)
set_option maxHeartbeats 4000000 in
set_option maxRecDepth 100000 in
theorem q_X7_longWord_9 {h hE : AH} {v : Int32} (hf : b_X7_longWord_9  h = some (v, hE)) : JD cX7_longWord 1 RX7 "longWord" (some .int) (8) 9 [] [] h hE (some (.inl (v))) := by
  unfold b_X7_longWord_9 at hf
  obtain ⟨hv, hh⟩ := Prod.mk.inj (Option.some.inj hf)
  subst hv
  subst hh
  have mE : hp_n h ≤ hp_n h ∧ hp_s h ≤ hp_s h := ⟨Nat.le_refl _, Nat.le_refl _⟩
  refine ⟨by omega, fun X g K ok nmx lev hK en => ?_⟩
  refine tj_iconst (v := 2) ok dX7_longWord_9 (by decide) ?_
  exact tj_ireturn ok en dX7_longWord_10
def b_X7_longWord_0 (a0 : Nat) (h : AH) : Option (Int32 × AH) :=
  (ok_v h a0 7).bind fun x1 => (f_X7_isWord a0 2 h).bind fun q2 => if q2.1 = 0 then b_X7_longWord_11 a0 q2.2 else b_X7_longWord_9 q2.2
set_option maxHeartbeats 4000000 in
set_option maxRecDepth 100000 in
theorem q_X7_longWord_0 {a0 : Nat} {h hE : AH} {v : Int32} (hf : b_X7_longWord_0 a0 h = some (v, hE)) : JD cX7_longWord 1 RX7 "longWord" (some .int) (8) 0 [(0, .inr (.inr (a0)))] [] h hE (some (.inl (v))) := by
  unfold b_X7_longWord_0 at hf
  obtain ⟨x1, e1, hf⟩ := bnd hf
  obtain ⟨⟨x2, h2⟩, e2, hf⟩ := bnd hf
  try dsimp only at hf
  have k2 := c_X7_isWord e2
  have m2 := (k2 default_g).1
  have mE : hp_n h2 ≤ hp_n hE ∧ hp_s h2 ≤ hp_s hE := by
    by_cases hc : x2 = 0
    · rw [if_pos hc] at hf; exact (q_X7_longWord_11 hf).1
    · rw [if_neg hc] at hf; exact (q_X7_longWord_9 hf).1
  refine ⟨by omega, fun X g K ok nmx lev hK en => ?_⟩
  refine tj_aload_n ok 0 dX7_longWord_0 rfl rfl ?_
  refine tj_ldcS (r := 2) ok (i := 1) rfl ⟨by decide, by decide⟩ dX7_longWord_1 ?_
  refine tj_callV (rest := ([] : List TV).map (vl g)) (as := [.inr (.inr (2))]) ok lev (by omega) fcX7.1 (by decide) rfl (of_if e1).1 (k2 g) (CaX.of en (by omega)) kn_X7_isWord wm_999 wm_1000 wm_1001 (rs_ok (Nat.le_of_ble_eq_true rfl)) rfl rfl dX7_longWord_3 ?_
  refine tj_if_eq (tgt := 11) ok dX7_longWord_6 (by decide) (fun hc => ?_) (fun hc => ?_)
  · rw [if_pos hc] at hf
    exact (q_X7_longWord_11 hf).2 X g K ok nmx lev hK en
  · rw [if_neg hc] at hf
    refine tj_sub (lv' := []) [] rfl ?_
    exact (q_X7_longWord_9 hf).2 X g K ok nmx lev hK en
def f_X7_longWord (a0 : Nat) (h : AH) : Option (Int32 × AH) := b_X7_longWord_0  a0 h
theorem c_X7_longWord {a0 : Nat} {h hE : AH} {v : Int32} (hf : f_X7_longWord a0 h = some (v, hE)) : ∀ g : GT, CM g (8) yX7_longWord cX7_longWord 1 (some .int) h [.inr (.inr (a0))] hE (some (.inl (v))) :=
  CM.ofJ (by decide) (by show _ ≤ 1; exact Nat.le_of_ble_eq_true rfl) (q_X7_longWord_0 hf)
/-! ===== LitmusHouse$Scanner.nameOfOne(I)I ===== -/
def b_X7_nameOfOne_46  (h : AH) : Option (Int32 × AH) :=
  some ((1 : Int32), h)
set_option maxHeartbeats 4000000 in
set_option maxRecDepth 100000 in
theorem q_X7_nameOfOne_46 {h hE : AH} {v : Int32} (hf : b_X7_nameOfOne_46  h = some (v, hE)) : JD cX7_nameOfOne 2 RX7 "nameOfOne" (some .int) (2) 46 [] [] h hE (some (.inl (v))) := by
  unfold b_X7_nameOfOne_46 at hf
  obtain ⟨hv, hh⟩ := Prod.mk.inj (Option.some.inj hf)
  subst hv
  subst hh
  have mE : hp_n h ≤ hp_n h ∧ hp_s h ≤ hp_s h := ⟨Nat.le_refl _, Nat.le_refl _⟩
  refine ⟨by omega, fun X g K ok nmx lev hK en => ?_⟩
  refine tj_iconst (v := 1) ok dX7_nameOfOne_46 (by decide) ?_
  exact tj_ireturn ok en dX7_nameOfOne_47
def b_X7_nameOfOne_35 (a0 : Nat) (a1 : Int32) (h : AH) : Option (Int32 × AH) :=
  (p_i h a0 7 1 (a1 - (117 : Int32))).bind fun h1 => some ((11 : Int32), h1)
set_option maxHeartbeats 4000000 in
set_option maxRecDepth 100000 in
theorem q_X7_nameOfOne_35 {a0 : Nat} {a1 : Int32} {h hE : AH} {v : Int32} (hf : b_X7_nameOfOne_35 a0 a1 h = some (v, hE)) : JD cX7_nameOfOne 2 RX7 "nameOfOne" (some .int) (2) 35 [(0, .inr (.inr (a0))), (1, .inl (a1))] [] h hE (some (.inl (v))) := by
  unfold b_X7_nameOfOne_35 at hf
  obtain ⟨h1, e1, hf⟩ := bnd hf
  have m1 := nn_pi e1
  obtain ⟨hv, hh⟩ := Prod.mk.inj (Option.some.inj hf)
  subst hv
  subst hh
  have mE : hp_n h1 ≤ hp_n h1 ∧ hp_s h1 ≤ hp_s h1 := ⟨Nat.le_refl _, Nat.le_refl _⟩
  refine ⟨by omega, fun X g K ok nmx lev hK en => ?_⟩
  refine tj_aload_n ok 0 dX7_nameOfOne_35 rfl rfl ?_
  refine tj_iload_n ok 1 dX7_nameOfOne_36 rfl rfl ?_
  refine tj_bipush (v := 117) ok dX7_nameOfOne_37 (by decide) ?_
  refine tj_isub ok dX7_nameOfOne_39 ?_
  refine tj_putI (k := 1) ok fcX7 (by decide) wm_116 rfl (Or.inl rfl) rfl dX7_nameOfOne_40 e1 ?_
  refine tj_bipush (v := 11) ok dX7_nameOfOne_43 (by decide) ?_
  exact tj_ireturn ok en dX7_nameOfOne_45
def b_X7_nameOfOne_29 (a0 : Nat) (a1 : Int32) (h : AH) : Option (Int32 × AH) :=
  if (122 : Int32) < a1 then b_X7_nameOfOne_46 h else b_X7_nameOfOne_35 a0 a1 h
set_option maxHeartbeats 4000000 in
set_option maxRecDepth 100000 in
theorem q_X7_nameOfOne_29 {a0 : Nat} {a1 : Int32} {h hE : AH} {v : Int32} (hf : b_X7_nameOfOne_29 a0 a1 h = some (v, hE)) : JD cX7_nameOfOne 2 RX7 "nameOfOne" (some .int) (2) 29 [(0, .inr (.inr (a0))), (1, .inl (a1))] [] h hE (some (.inl (v))) := by
  unfold b_X7_nameOfOne_29 at hf
  have mE : hp_n h ≤ hp_n hE ∧ hp_s h ≤ hp_s hE := by
    by_cases hc : (122 : Int32) < a1
    · rw [if_pos hc] at hf; exact (q_X7_nameOfOne_46 hf).1
    · rw [if_neg hc] at hf; exact (q_X7_nameOfOne_35 hf).1
  refine ⟨by omega, fun X g K ok nmx lev hK en => ?_⟩
  refine tj_iload_n ok 1 dX7_nameOfOne_29 rfl rfl ?_
  refine tj_bipush (v := 122) ok dX7_nameOfOne_30 (by decide) ?_
  refine tj_icmp_gt (tgt := 46) ok dX7_nameOfOne_32 (by decide) (fun hc => ?_) (fun hc => ?_)
  · rw [if_pos hc] at hf
    refine tj_sub (lv' := []) [] rfl ?_
    exact (q_X7_nameOfOne_46 hf).2 X g K ok nmx lev hK en
  · rw [if_neg hc] at hf
    exact (q_X7_nameOfOne_35 hf).2 X g K ok nmx lev hK en
def b_X7_nameOfOne_23 (a0 : Nat) (a1 : Int32) (h : AH) : Option (Int32 × AH) :=
  if a1 < (117 : Int32) then b_X7_nameOfOne_46 h else b_X7_nameOfOne_29 a0 a1 h
set_option maxHeartbeats 4000000 in
set_option maxRecDepth 100000 in
theorem q_X7_nameOfOne_23 {a0 : Nat} {a1 : Int32} {h hE : AH} {v : Int32} (hf : b_X7_nameOfOne_23 a0 a1 h = some (v, hE)) : JD cX7_nameOfOne 2 RX7 "nameOfOne" (some .int) (2) 23 [(0, .inr (.inr (a0))), (1, .inl (a1))] [] h hE (some (.inl (v))) := by
  unfold b_X7_nameOfOne_23 at hf
  have mE : hp_n h ≤ hp_n hE ∧ hp_s h ≤ hp_s hE := by
    by_cases hc : a1 < (117 : Int32)
    · rw [if_pos hc] at hf; exact (q_X7_nameOfOne_46 hf).1
    · rw [if_neg hc] at hf; exact (q_X7_nameOfOne_29 hf).1
  refine ⟨by omega, fun X g K ok nmx lev hK en => ?_⟩
  refine tj_iload_n ok 1 dX7_nameOfOne_23 rfl rfl ?_
  refine tj_bipush (v := 117) ok dX7_nameOfOne_24 (by decide) ?_
  refine tj_icmp_lt (tgt := 46) ok dX7_nameOfOne_26 (by decide) (fun hc => ?_) (fun hc => ?_)
  · rw [if_pos hc] at hf
    refine tj_sub (lv' := []) [] rfl ?_
    exact (q_X7_nameOfOne_46 hf).2 X g K ok nmx lev hK en
  · rw [if_neg hc] at hf
    exact (q_X7_nameOfOne_29 hf).2 X g K ok nmx lev hK en
def b_X7_nameOfOne_12 (a0 : Nat) (a1 : Int32) (h : AH) : Option (Int32 × AH) :=
  (p_i h a0 7 1 (a1 - (48 : Int32))).bind fun h1 => some ((14 : Int32), h1)
set_option maxHeartbeats 4000000 in
set_option maxRecDepth 100000 in
theorem q_X7_nameOfOne_12 {a0 : Nat} {a1 : Int32} {h hE : AH} {v : Int32} (hf : b_X7_nameOfOne_12 a0 a1 h = some (v, hE)) : JD cX7_nameOfOne 2 RX7 "nameOfOne" (some .int) (2) 12 [(0, .inr (.inr (a0))), (1, .inl (a1))] [] h hE (some (.inl (v))) := by
  unfold b_X7_nameOfOne_12 at hf
  obtain ⟨h1, e1, hf⟩ := bnd hf
  have m1 := nn_pi e1
  obtain ⟨hv, hh⟩ := Prod.mk.inj (Option.some.inj hf)
  subst hv
  subst hh
  have mE : hp_n h1 ≤ hp_n h1 ∧ hp_s h1 ≤ hp_s h1 := ⟨Nat.le_refl _, Nat.le_refl _⟩
  refine ⟨by omega, fun X g K ok nmx lev hK en => ?_⟩
  refine tj_aload_n ok 0 dX7_nameOfOne_12 rfl rfl ?_
  refine tj_iload_n ok 1 dX7_nameOfOne_13 rfl rfl ?_
  refine tj_bipush (v := 48) ok dX7_nameOfOne_14 (by decide) ?_
  refine tj_isub ok dX7_nameOfOne_16 ?_
  refine tj_putI (k := 1) ok fcX7 (by decide) wm_116 rfl (Or.inl rfl) rfl dX7_nameOfOne_17 e1 ?_
  refine tj_bipush (v := 14) ok dX7_nameOfOne_20 (by decide) ?_
  exact tj_ireturn ok en dX7_nameOfOne_22
def b_X7_nameOfOne_6 (a0 : Nat) (a1 : Int32) (h : AH) : Option (Int32 × AH) :=
  if (57 : Int32) < a1 then b_X7_nameOfOne_23 a0 a1 h else b_X7_nameOfOne_12 a0 a1 h
set_option maxHeartbeats 4000000 in
set_option maxRecDepth 100000 in
theorem q_X7_nameOfOne_6 {a0 : Nat} {a1 : Int32} {h hE : AH} {v : Int32} (hf : b_X7_nameOfOne_6 a0 a1 h = some (v, hE)) : JD cX7_nameOfOne 2 RX7 "nameOfOne" (some .int) (2) 6 [(0, .inr (.inr (a0))), (1, .inl (a1))] [] h hE (some (.inl (v))) := by
  unfold b_X7_nameOfOne_6 at hf
  have mE : hp_n h ≤ hp_n hE ∧ hp_s h ≤ hp_s hE := by
    by_cases hc : (57 : Int32) < a1
    · rw [if_pos hc] at hf; exact (q_X7_nameOfOne_23 hf).1
    · rw [if_neg hc] at hf; exact (q_X7_nameOfOne_12 hf).1
  refine ⟨by omega, fun X g K ok nmx lev hK en => ?_⟩
  refine tj_iload_n ok 1 dX7_nameOfOne_6 rfl rfl ?_
  refine tj_bipush (v := 57) ok dX7_nameOfOne_7 (by decide) ?_
  refine tj_icmp_gt (tgt := 23) ok dX7_nameOfOne_9 (by decide) (fun hc => ?_) (fun hc => ?_)
  · rw [if_pos hc] at hf
    exact (q_X7_nameOfOne_23 hf).2 X g K ok nmx lev hK en
  · rw [if_neg hc] at hf
    exact (q_X7_nameOfOne_12 hf).2 X g K ok nmx lev hK en
def b_X7_nameOfOne_0 (a0 : Nat) (a1 : Int32) (h : AH) : Option (Int32 × AH) :=
  if a1 < (48 : Int32) then b_X7_nameOfOne_23 a0 a1 h else b_X7_nameOfOne_6 a0 a1 h
set_option maxHeartbeats 4000000 in
set_option maxRecDepth 100000 in
theorem q_X7_nameOfOne_0 {a0 : Nat} {a1 : Int32} {h hE : AH} {v : Int32} (hf : b_X7_nameOfOne_0 a0 a1 h = some (v, hE)) : JD cX7_nameOfOne 2 RX7 "nameOfOne" (some .int) (2) 0 [(0, .inr (.inr (a0))), (1, .inl (a1))] [] h hE (some (.inl (v))) := by
  unfold b_X7_nameOfOne_0 at hf
  have mE : hp_n h ≤ hp_n hE ∧ hp_s h ≤ hp_s hE := by
    by_cases hc : a1 < (48 : Int32)
    · rw [if_pos hc] at hf; exact (q_X7_nameOfOne_23 hf).1
    · rw [if_neg hc] at hf; exact (q_X7_nameOfOne_6 hf).1
  refine ⟨by omega, fun X g K ok nmx lev hK en => ?_⟩
  refine tj_iload_n ok 1 dX7_nameOfOne_0 rfl rfl ?_
  refine tj_bipush (v := 48) ok dX7_nameOfOne_1 (by decide) ?_
  refine tj_icmp_lt (tgt := 23) ok dX7_nameOfOne_3 (by decide) (fun hc => ?_) (fun hc => ?_)
  · rw [if_pos hc] at hf
    exact (q_X7_nameOfOne_23 hf).2 X g K ok nmx lev hK en
  · rw [if_neg hc] at hf
    exact (q_X7_nameOfOne_6 hf).2 X g K ok nmx lev hK en
def f_X7_nameOfOne (a0 : Nat) (a1 : Int32) (h : AH) : Option (Int32 × AH) := b_X7_nameOfOne_0  a0 a1 h
theorem c_X7_nameOfOne {a0 : Nat} {a1 : Int32} {h hE : AH} {v : Int32} (hf : f_X7_nameOfOne a0 a1 h = some (v, hE)) : ∀ g : GT, CM g (2) yX7_nameOfOne cX7_nameOfOne 2 (some .int) h [.inr (.inr (a0)), .inl (a1)] hE (some (.inl (v))) :=
  CM.ofJ (by decide) (by show _ ≤ 2; exact Nat.le_of_ble_eq_true rfl) (q_X7_nameOfOne_0 hf)
/-! ===== LitmusHouse$Scanner.nameOfTwo(II)I ===== -/
def b_X7_nameOfTwo_69 (s0 : Int32) (h : AH) : Option (Int32 × AH) :=
  some (s0, h)
set_option maxHeartbeats 4000000 in
set_option maxRecDepth 100000 in
theorem q_X7_nameOfTwo_69 {s0 : Int32} {h hE : AH} {v : Int32} (hf : b_X7_nameOfTwo_69 s0 h = some (v, hE)) : JD cX7_nameOfTwo 4 RX7 "nameOfTwo" (some .int) (2) 69 [] [.inl (s0)] h hE (some (.inl (v))) := by
  unfold b_X7_nameOfTwo_69 at hf
  obtain ⟨hv, hh⟩ := Prod.mk.inj (Option.some.inj hf)
  subst hv
  subst hh
  have mE : hp_n h ≤ hp_n h ∧ hp_s h ≤ hp_s h := ⟨Nat.le_refl _, Nat.le_refl _⟩
  refine ⟨by omega, fun X g K ok nmx lev hK en => ?_⟩
  exact tj_ireturn ok en dX7_nameOfTwo_69
def b_X7_nameOfTwo_68  (h : AH) : Option (Int32 × AH) :=
  b_X7_nameOfTwo_69 (1 : Int32) h
set_option maxHeartbeats 4000000 in
set_option maxRecDepth 100000 in
theorem q_X7_nameOfTwo_68 {h hE : AH} {v : Int32} (hf : b_X7_nameOfTwo_68  h = some (v, hE)) : JD cX7_nameOfTwo 4 RX7 "nameOfTwo" (some .int) (2) 68 [] [] h hE (some (.inl (v))) := by
  unfold b_X7_nameOfTwo_68 at hf
  have J := q_X7_nameOfTwo_69 hf
  have mE := J.1
  refine ⟨by omega, fun X g K ok nmx lev hK en => ?_⟩
  refine tj_iconst (v := 1) ok dX7_nameOfTwo_68 (by decide) ?_
  exact J.2 X g K ok nmx lev hK en
def b_X7_nameOfTwo_63  (h : AH) : Option (Int32 × AH) :=
  b_X7_nameOfTwo_69 (9 : Int32) h
set_option maxHeartbeats 4000000 in
set_option maxRecDepth 100000 in
theorem q_X7_nameOfTwo_63 {h hE : AH} {v : Int32} (hf : b_X7_nameOfTwo_63  h = some (v, hE)) : JD cX7_nameOfTwo 4 RX7 "nameOfTwo" (some .int) (2) 63 [] [] h hE (some (.inl (v))) := by
  unfold b_X7_nameOfTwo_63 at hf
  have J := q_X7_nameOfTwo_69 hf
  have mE := J.1
  refine ⟨by omega, fun X g K ok nmx lev hK en => ?_⟩
  refine tj_bipush (v := 9) ok dX7_nameOfTwo_63 (by decide) ?_
  refine tj_goto (tgt := 69) ok dX7_nameOfTwo_65 (by decide) ?_
  exact J.2 X g K ok nmx lev hK en
def b_X7_nameOfTwo_57 (a2 : Int32) (h : AH) : Option (Int32 × AH) :=
  if a2 = (102 : Int32) then b_X7_nameOfTwo_63 h else b_X7_nameOfTwo_68 h
set_option maxHeartbeats 4000000 in
set_option maxRecDepth 100000 in
theorem q_X7_nameOfTwo_57 {a2 : Int32} {h hE : AH} {v : Int32} (hf : b_X7_nameOfTwo_57 a2 h = some (v, hE)) : JD cX7_nameOfTwo 4 RX7 "nameOfTwo" (some .int) (2) 57 [(2, .inl (a2))] [] h hE (some (.inl (v))) := by
  unfold b_X7_nameOfTwo_57 at hf
  have mE : hp_n h ≤ hp_n hE ∧ hp_s h ≤ hp_s hE := by
    by_cases hc : a2 = (102 : Int32)
    · rw [if_pos hc] at hf; exact (q_X7_nameOfTwo_63 hf).1
    · rw [if_neg hc] at hf; exact (q_X7_nameOfTwo_68 hf).1
  refine ⟨by omega, fun X g K ok nmx lev hK en => ?_⟩
  refine tj_iload_n ok 0 dX7_nameOfTwo_57 rfl rfl ?_
  refine tj_bipush (v := 102) ok dX7_nameOfTwo_58 (by decide) ?_
  refine tj_icmp_ne (tgt := 68) ok dX7_nameOfTwo_60 (by decide) (fun hc => ?_) (fun hc => ?_)
  · rw [if_neg hc] at hf
    refine tj_sub (lv' := []) [] rfl ?_
    exact (q_X7_nameOfTwo_68 hf).2 X g K ok nmx lev hK en
  · rw [if_pos hc] at hf
    refine tj_sub (lv' := []) [] rfl ?_
    exact (q_X7_nameOfTwo_63 hf).2 X g K ok nmx lev hK en
def b_X7_nameOfTwo_51 (a1 : Int32) (a2 : Int32) (h : AH) : Option (Int32 × AH) :=
  if a1 = (105 : Int32) then b_X7_nameOfTwo_57 a2 h else b_X7_nameOfTwo_68 h
set_option maxHeartbeats 4000000 in
set_option maxRecDepth 100000 in
theorem q_X7_nameOfTwo_51 {a1 : Int32} {a2 : Int32} {h hE : AH} {v : Int32} (hf : b_X7_nameOfTwo_51 a1 a2 h = some (v, hE)) : JD cX7_nameOfTwo 4 RX7 "nameOfTwo" (some .int) (2) 51 [(1, .inl (a1)), (2, .inl (a2))] [] h hE (some (.inl (v))) := by
  unfold b_X7_nameOfTwo_51 at hf
  have mE : hp_n h ≤ hp_n hE ∧ hp_s h ≤ hp_s hE := by
    by_cases hc : a1 = (105 : Int32)
    · rw [if_pos hc] at hf; exact (q_X7_nameOfTwo_57 hf).1
    · rw [if_neg hc] at hf; exact (q_X7_nameOfTwo_68 hf).1
  refine ⟨by omega, fun X g K ok nmx lev hK en => ?_⟩
  refine tj_iload_n ok 0 dX7_nameOfTwo_51 rfl rfl ?_
  refine tj_bipush (v := 105) ok dX7_nameOfTwo_52 (by decide) ?_
  refine tj_icmp_ne (tgt := 68) ok dX7_nameOfTwo_54 (by decide) (fun hc => ?_) (fun hc => ?_)
  · rw [if_neg hc] at hf
    refine tj_sub (lv' := []) [] rfl ?_
    exact (q_X7_nameOfTwo_68 hf).2 X g K ok nmx lev hK en
  · rw [if_pos hc] at hf
    refine tj_sub (lv' := [(2, .inl (a2))]) [1] rfl ?_
    exact (q_X7_nameOfTwo_57 hf).2 X g K ok nmx lev hK en
def b_X7_nameOfTwo_43 (a0 : Nat) (a3 : Int32) (h : AH) : Option (Int32 × AH) :=
  (p_i h a0 7 1 a3).bind fun h1 => some ((13 : Int32), h1)
set_option maxHeartbeats 4000000 in
set_option maxRecDepth 100000 in
theorem q_X7_nameOfTwo_43 {a0 : Nat} {a3 : Int32} {h hE : AH} {v : Int32} (hf : b_X7_nameOfTwo_43 a0 a3 h = some (v, hE)) : JD cX7_nameOfTwo 4 RX7 "nameOfTwo" (some .int) (2) 43 [(0, .inr (.inr (a0))), (3, .inl (a3))] [] h hE (some (.inl (v))) := by
  unfold b_X7_nameOfTwo_43 at hf
  obtain ⟨h1, e1, hf⟩ := bnd hf
  have m1 := nn_pi e1
  obtain ⟨hv, hh⟩ := Prod.mk.inj (Option.some.inj hf)
  subst hv
  subst hh
  have mE : hp_n h1 ≤ hp_n h1 ∧ hp_s h1 ≤ hp_s h1 := ⟨Nat.le_refl _, Nat.le_refl _⟩
  refine ⟨by omega, fun X g K ok nmx lev hK en => ?_⟩
  refine tj_aload_n ok 0 dX7_nameOfTwo_43 rfl rfl ?_
  refine tj_iload_n ok 1 dX7_nameOfTwo_44 rfl rfl ?_
  refine tj_putI (k := 1) ok fcX7 (by decide) wm_116 rfl (Or.inl rfl) rfl dX7_nameOfTwo_45 e1 ?_
  refine tj_bipush (v := 13) ok dX7_nameOfTwo_48 (by decide) ?_
  exact tj_ireturn ok en dX7_nameOfTwo_50
def b_X7_nameOfTwo_38 (a0 : Nat) (a1 : Int32) (a2 : Int32) (a3 : Int32) (h : AH) : Option (Int32 × AH) :=
  if (2 : Int32) ≤ a3 then b_X7_nameOfTwo_51 a1 a2 h else b_X7_nameOfTwo_43 a0 a3 h
set_option maxHeartbeats 4000000 in
set_option maxRecDepth 100000 in
theorem q_X7_nameOfTwo_38 {a0 : Nat} {a1 : Int32} {a2 : Int32} {a3 : Int32} {h hE : AH} {v : Int32} (hf : b_X7_nameOfTwo_38 a0 a1 a2 a3 h = some (v, hE)) : JD cX7_nameOfTwo 4 RX7 "nameOfTwo" (some .int) (2) 38 [(0, .inr (.inr (a0))), (1, .inl (a1)), (2, .inl (a2)), (3, .inl (a3))] [] h hE (some (.inl (v))) := by
  unfold b_X7_nameOfTwo_38 at hf
  have mE : hp_n h ≤ hp_n hE ∧ hp_s h ≤ hp_s hE := by
    by_cases hc : (2 : Int32) ≤ a3
    · rw [if_pos hc] at hf; exact (q_X7_nameOfTwo_51 hf).1
    · rw [if_neg hc] at hf; exact (q_X7_nameOfTwo_43 hf).1
  refine ⟨by omega, fun X g K ok nmx lev hK en => ?_⟩
  refine tj_iload_n ok 3 dX7_nameOfTwo_38 rfl rfl ?_
  refine tj_iconst (v := 2) ok dX7_nameOfTwo_39 (by decide) ?_
  refine tj_icmp_ge (tgt := 51) ok dX7_nameOfTwo_40 (by decide) (fun hc => ?_) (fun hc => ?_)
  · rw [if_pos hc] at hf
    refine tj_sub (lv' := [(1, .inl (a1)), (2, .inl (a2))]) [1, 2] rfl ?_
    exact (q_X7_nameOfTwo_51 hf).2 X g K ok nmx lev hK en
  · rw [if_neg hc] at hf
    refine tj_sub (lv' := [(0, .inr (.inr (a0))), (3, .inl (a3))]) [0, 3] rfl ?_
    exact (q_X7_nameOfTwo_43 hf).2 X g K ok nmx lev hK en
def b_X7_nameOfTwo_34 (a0 : Nat) (a1 : Int32) (a2 : Int32) (a3 : Int32) (h : AH) : Option (Int32 × AH) :=
  if a3 < 0 then b_X7_nameOfTwo_51 a1 a2 h else b_X7_nameOfTwo_38 a0 a1 a2 a3 h
set_option maxHeartbeats 4000000 in
set_option maxRecDepth 100000 in
theorem q_X7_nameOfTwo_34 {a0 : Nat} {a1 : Int32} {a2 : Int32} {a3 : Int32} {h hE : AH} {v : Int32} (hf : b_X7_nameOfTwo_34 a0 a1 a2 a3 h = some (v, hE)) : JD cX7_nameOfTwo 4 RX7 "nameOfTwo" (some .int) (2) 34 [(0, .inr (.inr (a0))), (1, .inl (a1)), (2, .inl (a2)), (3, .inl (a3))] [] h hE (some (.inl (v))) := by
  unfold b_X7_nameOfTwo_34 at hf
  have mE : hp_n h ≤ hp_n hE ∧ hp_s h ≤ hp_s hE := by
    by_cases hc : a3 < 0
    · rw [if_pos hc] at hf; exact (q_X7_nameOfTwo_51 hf).1
    · rw [if_neg hc] at hf; exact (q_X7_nameOfTwo_38 hf).1
  refine ⟨by omega, fun X g K ok nmx lev hK en => ?_⟩
  refine tj_iload_n ok 3 dX7_nameOfTwo_34 rfl rfl ?_
  refine tj_if_lt (tgt := 51) ok dX7_nameOfTwo_35 (by decide) (fun hc => ?_) (fun hc => ?_)
  · rw [if_pos hc] at hf
    refine tj_sub (lv' := [(1, .inl (a1)), (2, .inl (a2))]) [1, 2] rfl ?_
    exact (q_X7_nameOfTwo_51 hf).2 X g K ok nmx lev hK en
  · rw [if_neg hc] at hf
    exact (q_X7_nameOfTwo_38 hf).2 X g K ok nmx lev hK en
def b_X7_nameOfTwo_28 (a0 : Nat) (a1 : Int32) (a2 : Int32) (a3 : Int32) (h : AH) : Option (Int32 × AH) :=
  if a1 = (109 : Int32) then b_X7_nameOfTwo_34 a0 a1 a2 a3 h else b_X7_nameOfTwo_51 a1 a2 h
set_option maxHeartbeats 4000000 in
set_option maxRecDepth 100000 in
theorem q_X7_nameOfTwo_28 {a0 : Nat} {a1 : Int32} {a2 : Int32} {a3 : Int32} {h hE : AH} {v : Int32} (hf : b_X7_nameOfTwo_28 a0 a1 a2 a3 h = some (v, hE)) : JD cX7_nameOfTwo 4 RX7 "nameOfTwo" (some .int) (2) 28 [(0, .inr (.inr (a0))), (1, .inl (a1)), (2, .inl (a2)), (3, .inl (a3))] [] h hE (some (.inl (v))) := by
  unfold b_X7_nameOfTwo_28 at hf
  have mE : hp_n h ≤ hp_n hE ∧ hp_s h ≤ hp_s hE := by
    by_cases hc : a1 = (109 : Int32)
    · rw [if_pos hc] at hf; exact (q_X7_nameOfTwo_34 hf).1
    · rw [if_neg hc] at hf; exact (q_X7_nameOfTwo_51 hf).1
  refine ⟨by omega, fun X g K ok nmx lev hK en => ?_⟩
  refine tj_iload_n ok 1 dX7_nameOfTwo_28 rfl rfl ?_
  refine tj_bipush (v := 109) ok dX7_nameOfTwo_29 (by decide) ?_
  refine tj_icmp_ne (tgt := 51) ok dX7_nameOfTwo_31 (by decide) (fun hc => ?_) (fun hc => ?_)
  · rw [if_neg hc] at hf
    refine tj_sub (lv' := [(1, .inl (a1)), (2, .inl (a2))]) [1, 2] rfl ?_
    exact (q_X7_nameOfTwo_51 hf).2 X g K ok nmx lev hK en
  · rw [if_pos hc] at hf
    exact (q_X7_nameOfTwo_34 hf).2 X g K ok nmx lev hK en
def b_X7_nameOfTwo_20 (a0 : Nat) (a3 : Int32) (h : AH) : Option (Int32 × AH) :=
  (p_i h a0 7 1 a3).bind fun h1 => some ((12 : Int32), h1)
set_option maxHeartbeats 4000000 in
set_option maxRecDepth 100000 in
theorem q_X7_nameOfTwo_20 {a0 : Nat} {a3 : Int32} {h hE : AH} {v : Int32} (hf : b_X7_nameOfTwo_20 a0 a3 h = some (v, hE)) : JD cX7_nameOfTwo 4 RX7 "nameOfTwo" (some .int) (2) 20 [(0, .inr (.inr (a0))), (3, .inl (a3))] [] h hE (some (.inl (v))) := by
  unfold b_X7_nameOfTwo_20 at hf
  obtain ⟨h1, e1, hf⟩ := bnd hf
  have m1 := nn_pi e1
  obtain ⟨hv, hh⟩ := Prod.mk.inj (Option.some.inj hf)
  subst hv
  subst hh
  have mE : hp_n h1 ≤ hp_n h1 ∧ hp_s h1 ≤ hp_s h1 := ⟨Nat.le_refl _, Nat.le_refl _⟩
  refine ⟨by omega, fun X g K ok nmx lev hK en => ?_⟩
  refine tj_aload_n ok 0 dX7_nameOfTwo_20 rfl rfl ?_
  refine tj_iload_n ok 1 dX7_nameOfTwo_21 rfl rfl ?_
  refine tj_putI (k := 1) ok fcX7 (by decide) wm_116 rfl (Or.inl rfl) rfl dX7_nameOfTwo_22 e1 ?_
  refine tj_bipush (v := 12) ok dX7_nameOfTwo_25 (by decide) ?_
  exact tj_ireturn ok en dX7_nameOfTwo_27
def b_X7_nameOfTwo_15 (a0 : Nat) (a1 : Int32) (a2 : Int32) (a3 : Int32) (h : AH) : Option (Int32 × AH) :=
  if (5 : Int32) ≤ a3 then b_X7_nameOfTwo_28 a0 a1 a2 a3 h else b_X7_nameOfTwo_20 a0 a3 h
set_option maxHeartbeats 4000000 in
set_option maxRecDepth 100000 in
theorem q_X7_nameOfTwo_15 {a0 : Nat} {a1 : Int32} {a2 : Int32} {a3 : Int32} {h hE : AH} {v : Int32} (hf : b_X7_nameOfTwo_15 a0 a1 a2 a3 h = some (v, hE)) : JD cX7_nameOfTwo 4 RX7 "nameOfTwo" (some .int) (2) 15 [(0, .inr (.inr (a0))), (1, .inl (a1)), (2, .inl (a2)), (3, .inl (a3))] [] h hE (some (.inl (v))) := by
  unfold b_X7_nameOfTwo_15 at hf
  have mE : hp_n h ≤ hp_n hE ∧ hp_s h ≤ hp_s hE := by
    by_cases hc : (5 : Int32) ≤ a3
    · rw [if_pos hc] at hf; exact (q_X7_nameOfTwo_28 hf).1
    · rw [if_neg hc] at hf; exact (q_X7_nameOfTwo_20 hf).1
  refine ⟨by omega, fun X g K ok nmx lev hK en => ?_⟩
  refine tj_iload_n ok 3 dX7_nameOfTwo_15 rfl rfl ?_
  refine tj_iconst (v := 5) ok dX7_nameOfTwo_16 (by decide) ?_
  refine tj_icmp_ge (tgt := 28) ok dX7_nameOfTwo_17 (by decide) (fun hc => ?_) (fun hc => ?_)
  · rw [if_pos hc] at hf
    exact (q_X7_nameOfTwo_28 hf).2 X g K ok nmx lev hK en
  · rw [if_neg hc] at hf
    refine tj_sub (lv' := [(0, .inr (.inr (a0))), (3, .inl (a3))]) [0, 3] rfl ?_
    exact (q_X7_nameOfTwo_20 hf).2 X g K ok nmx lev hK en
def b_X7_nameOfTwo_11 (a0 : Nat) (a1 : Int32) (a2 : Int32) (a3 : Int32) (h : AH) : Option (Int32 × AH) :=
  if a3 < 0 then b_X7_nameOfTwo_28 a0 a1 a2 a3 h else b_X7_nameOfTwo_15 a0 a1 a2 a3 h
set_option maxHeartbeats 4000000 in
set_option maxRecDepth 100000 in
theorem q_X7_nameOfTwo_11 {a0 : Nat} {a1 : Int32} {a2 : Int32} {a3 : Int32} {h hE : AH} {v : Int32} (hf : b_X7_nameOfTwo_11 a0 a1 a2 a3 h = some (v, hE)) : JD cX7_nameOfTwo 4 RX7 "nameOfTwo" (some .int) (2) 11 [(0, .inr (.inr (a0))), (1, .inl (a1)), (2, .inl (a2)), (3, .inl (a3))] [] h hE (some (.inl (v))) := by
  unfold b_X7_nameOfTwo_11 at hf
  have mE : hp_n h ≤ hp_n hE ∧ hp_s h ≤ hp_s hE := by
    by_cases hc : a3 < 0
    · rw [if_pos hc] at hf; exact (q_X7_nameOfTwo_28 hf).1
    · rw [if_neg hc] at hf; exact (q_X7_nameOfTwo_15 hf).1
  refine ⟨by omega, fun X g K ok nmx lev hK en => ?_⟩
  refine tj_iload_n ok 3 dX7_nameOfTwo_11 rfl rfl ?_
  refine tj_if_lt (tgt := 28) ok dX7_nameOfTwo_12 (by decide) (fun hc => ?_) (fun hc => ?_)
  · rw [if_pos hc] at hf
    exact (q_X7_nameOfTwo_28 hf).2 X g K ok nmx lev hK en
  · rw [if_neg hc] at hf
    exact (q_X7_nameOfTwo_15 hf).2 X g K ok nmx lev hK en
def b_X7_nameOfTwo_0 (a0 : Nat) (a1 : Int32) (a2 : Int32) (h : AH) : Option (Int32 × AH) :=
  if a1 = (114 : Int32) then b_X7_nameOfTwo_11 a0 a1 a2 (a2 - (48 : Int32)) h else b_X7_nameOfTwo_28 a0 a1 a2 (a2 - (48 : Int32)) h
set_option maxHeartbeats 4000000 in
set_option maxRecDepth 100000 in
theorem q_X7_nameOfTwo_0 {a0 : Nat} {a1 : Int32} {a2 : Int32} {h hE : AH} {v : Int32} (hf : b_X7_nameOfTwo_0 a0 a1 a2 h = some (v, hE)) : JD cX7_nameOfTwo 4 RX7 "nameOfTwo" (some .int) (2) 0 [(0, .inr (.inr (a0))), (1, .inl (a1)), (2, .inl (a2))] [] h hE (some (.inl (v))) := by
  unfold b_X7_nameOfTwo_0 at hf
  have mE : hp_n h ≤ hp_n hE ∧ hp_s h ≤ hp_s hE := by
    by_cases hc : a1 = (114 : Int32)
    · rw [if_pos hc] at hf; exact (q_X7_nameOfTwo_11 hf).1
    · rw [if_neg hc] at hf; exact (q_X7_nameOfTwo_28 hf).1
  refine ⟨by omega, fun X g K ok nmx lev hK en => ?_⟩
  refine tj_iload_n ok 2 dX7_nameOfTwo_0 rfl rfl ?_
  refine tj_bipush (v := 48) ok dX7_nameOfTwo_1 (by decide) ?_
  refine tj_isub ok dX7_nameOfTwo_3 ?_
  refine tj_istore_n (lv' := [(0, .inr (.inr (a0))), (1, .inl (a1)), (2, .inl (a2)), (3, .inl (a2 - (48 : Int32)))]) ok dX7_nameOfTwo_4 rfl (by decide) rfl ?_
  refine tj_iload_n ok 1 dX7_nameOfTwo_5 rfl rfl ?_
  refine tj_bipush (v := 114) ok dX7_nameOfTwo_6 (by decide) ?_
  refine tj_icmp_ne (tgt := 28) ok dX7_nameOfTwo_8 (by decide) (fun hc => ?_) (fun hc => ?_)
  · rw [if_neg hc] at hf
    exact (q_X7_nameOfTwo_28 hf).2 X g K ok nmx lev hK en
  · rw [if_pos hc] at hf
    exact (q_X7_nameOfTwo_11 hf).2 X g K ok nmx lev hK en
def f_X7_nameOfTwo (a0 : Nat) (a1 : Int32) (a2 : Int32) (h : AH) : Option (Int32 × AH) := b_X7_nameOfTwo_0  a0 a1 a2 h
theorem c_X7_nameOfTwo {a0 : Nat} {a1 : Int32} {a2 : Int32} {h hE : AH} {v : Int32} (hf : f_X7_nameOfTwo a0 a1 a2 h = some (v, hE)) : ∀ g : GT, CM g (2) yX7_nameOfTwo cX7_nameOfTwo 4 (some .int) h [.inr (.inr (a0)), .inl (a1), .inl (a2)] hE (some (.inl (v))) :=
  CM.ofJ (by decide) (by show _ ≤ 4; exact Nat.le_of_ble_eq_true rfl) (q_X7_nameOfTwo_0 hf)
/-! ===== LitmusHouse$Scanner.scanWord()V ===== -/
def b_X7_scanWord_152  (h : AH) : Option (AH) :=
  some h
set_option maxHeartbeats 4000000 in
set_option maxRecDepth 100000 in
theorem q_X7_scanWord_152 {h hE : AH} (hf : b_X7_scanWord_152  h = some hE) : JD cX7_scanWord 1 RX7 "scanWord" none (9) 152 [] [] h hE none := by
  unfold b_X7_scanWord_152 at hf
  have hh := Option.some.inj hf
  subst hh
  have mE : hp_n h ≤ hp_n h ∧ hp_s h ≤ hp_s h := ⟨Nat.le_refl _, Nat.le_refl _⟩
  refine ⟨by omega, fun X g K ok nmx lev hK en => ?_⟩
  exact tj_return ok en dX7_scanWord_152
def b_X7_scanWord_76 (a0 : Nat) (h : AH) : Option (AH) :=
  (g_r h a0 7 3).bind fun x1 => (g_i h a0 7 2).bind fun x2 => (l_i h x1 x2).bind fun x3 => (ok_v h a0 7).bind fun x4 => (f_X7_nameOfOne a0 x3 h).bind fun q5 => (p_i q5.2 a0 7 0 q5.1).bind fun h6 => b_X7_scanWord_152 h6
set_option maxHeartbeats 4000000 in
set_option maxRecDepth 100000 in
theorem q_X7_scanWord_76 {a0 : Nat} {h hE : AH} (hf : b_X7_scanWord_76 a0 h = some hE) : JD cX7_scanWord 1 RX7 "scanWord" none (9) 76 [(0, .inr (.inr (a0)))] [] h hE none := by
  unfold b_X7_scanWord_76 at hf
  obtain ⟨x1, e1, hf⟩ := bnd hf
  obtain ⟨x2, e2, hf⟩ := bnd hf
  obtain ⟨x3, e3, hf⟩ := bnd hf
  obtain ⟨x4, e4, hf⟩ := bnd hf
  obtain ⟨⟨x5, h5⟩, e5, hf⟩ := bnd hf
  try dsimp only at hf
  have k5 := c_X7_nameOfOne e5
  have m5 := (k5 default_g).1
  obtain ⟨h6, e6, hf⟩ := bnd hf
  have m6 := nn_pi e6
  have J := q_X7_scanWord_152 hf
  have mE := J.1
  refine ⟨by omega, fun X g K ok nmx lev hK en => ?_⟩
  refine tj_aload_n ok 0 dX7_scanWord_76 rfl rfl ?_
  refine tj_aload_n ok 0 dX7_scanWord_77 rfl rfl ?_
  refine tj_aload_n ok 0 dX7_scanWord_78 rfl rfl ?_
  refine tj_getR (k := 3) ok fcX7 (by decide) wm_118 rfl (Or.inr ⟨_, rfl⟩) dX7_scanWord_79 e1 ?_
  refine tj_aload_n ok 0 dX7_scanWord_82 rfl rfl ?_
  refine tj_getI (k := 2) ok fcX7 (by decide) wm_117 rfl (Or.inl rfl) dX7_scanWord_83 e2 ?_
  refine tj_iaload ok dX7_scanWord_86 e3 ?_
  refine tj_callV (rest := ([.inr (.inr (a0))] : List TV).map (vl g)) (as := [.inl (x3)]) ok lev (by omega) fcX7.1 (by decide) rfl (of_if e4).1 (k5 g) (CaX.of en (by omega)) kn_X7_nameOfOne wm_1005 wm_1006 wm_1007 (rs_ok (Nat.le_of_ble_eq_true rfl)) rfl rfl dX7_scanWord_87 ?_
  refine tj_putI (k := 0) ok fcX7 (by decide) wm_115 rfl (Or.inl rfl) rfl dX7_scanWord_90 e6 ?_
  refine tj_goto (tgt := 152) ok dX7_scanWord_93 (by decide) ?_
  refine tj_sub (lv' := []) [] rfl ?_
  exact J.2 X g K ok nmx lev hK en
def b_X7_scanWord_138 (s0 : Nat) (s1 : Int32) (h : AH) : Option (AH) :=
  (p_i h s0 7 0 s1).bind fun h1 => b_X7_scanWord_152 h1
set_option maxHeartbeats 4000000 in
set_option maxRecDepth 100000 in
theorem q_X7_scanWord_138 {s0 : Nat} {s1 : Int32} {h hE : AH} (hf : b_X7_scanWord_138 s0 s1 h = some hE) : JD cX7_scanWord 1 RX7 "scanWord" none (9) 138 [] [.inl (s1), .inr (.inr (s0))] h hE none := by
  unfold b_X7_scanWord_138 at hf
  obtain ⟨h1, e1, hf⟩ := bnd hf
  have m1 := nn_pi e1
  have J := q_X7_scanWord_152 hf
  have mE := J.1
  refine ⟨by omega, fun X g K ok nmx lev hK en => ?_⟩
  refine tj_putI (k := 0) ok fcX7 (by decide) wm_115 rfl (Or.inl rfl) rfl dX7_scanWord_138 e1 ?_
  refine tj_goto (tgt := 152) ok dX7_scanWord_141 (by decide) ?_
  exact J.2 X g K ok nmx lev hK en
def b_X7_scanWord_137 (s0 : Nat) (h : AH) : Option (AH) :=
  b_X7_scanWord_138 s0 (1 : Int32) h
set_option maxHeartbeats 4000000 in
set_option maxRecDepth 100000 in
theorem q_X7_scanWord_137 {s0 : Nat} {h hE : AH} (hf : b_X7_scanWord_137 s0 h = some hE) : JD cX7_scanWord 1 RX7 "scanWord" none (9) 137 [] [.inr (.inr (s0))] h hE none := by
  unfold b_X7_scanWord_137 at hf
  have J := q_X7_scanWord_138 hf
  have mE := J.1
  refine ⟨by omega, fun X g K ok nmx lev hK en => ?_⟩
  refine tj_iconst (v := 1) ok dX7_scanWord_137 (by decide) ?_
  exact J.2 X g K ok nmx lev hK en
def b_X7_scanWord_110 (a0 : Nat) (s0 : Nat) (h : AH) : Option (AH) :=
  (g_r h a0 7 3).bind fun x1 => (g_i h a0 7 2).bind fun x2 => (l_i h x1 x2).bind fun x3 => (g_r h a0 7 3).bind fun x4 => (g_i h a0 7 2).bind fun x5 => (l_i h x4 (x5 + (1 : Int32))).bind fun x6 => (ok_v h a0 7).bind fun x7 => (f_X7_nameOfTwo a0 x3 x6 h).bind fun q8 => b_X7_scanWord_138 s0 q8.1 q8.2
set_option maxHeartbeats 4000000 in
set_option maxRecDepth 100000 in
theorem q_X7_scanWord_110 {a0 : Nat} {s0 : Nat} {h hE : AH} (hf : b_X7_scanWord_110 a0 s0 h = some hE) : JD cX7_scanWord 1 RX7 "scanWord" none (9) 110 [(0, .inr (.inr (a0)))] [.inr (.inr (s0))] h hE none := by
  unfold b_X7_scanWord_110 at hf
  obtain ⟨x1, e1, hf⟩ := bnd hf
  obtain ⟨x2, e2, hf⟩ := bnd hf
  obtain ⟨x3, e3, hf⟩ := bnd hf
  obtain ⟨x4, e4, hf⟩ := bnd hf
  obtain ⟨x5, e5, hf⟩ := bnd hf
  obtain ⟨x6, e6, hf⟩ := bnd hf
  obtain ⟨x7, e7, hf⟩ := bnd hf
  obtain ⟨⟨x8, h8⟩, e8, hf⟩ := bnd hf
  try dsimp only at hf
  have k8 := c_X7_nameOfTwo e8
  have m8 := (k8 default_g).1
  have J := q_X7_scanWord_138 hf
  have mE := J.1
  refine ⟨by omega, fun X g K ok nmx lev hK en => ?_⟩
  refine tj_aload_n ok 0 dX7_scanWord_110 rfl rfl ?_
  refine tj_aload_n ok 0 dX7_scanWord_111 rfl rfl ?_
  refine tj_getR (k := 3) ok fcX7 (by decide) wm_118 rfl (Or.inr ⟨_, rfl⟩) dX7_scanWord_112 e1 ?_
  refine tj_aload_n ok 0 dX7_scanWord_115 rfl rfl ?_
  refine tj_getI (k := 2) ok fcX7 (by decide) wm_117 rfl (Or.inl rfl) dX7_scanWord_116 e2 ?_
  refine tj_iaload ok dX7_scanWord_119 e3 ?_
  refine tj_aload_n ok 0 dX7_scanWord_120 rfl rfl ?_
  refine tj_getR (k := 3) ok fcX7 (by decide) wm_118 rfl (Or.inr ⟨_, rfl⟩) dX7_scanWord_121 e4 ?_
  refine tj_aload_n ok 0 dX7_scanWord_124 rfl rfl ?_
  refine tj_getI (k := 2) ok fcX7 (by decide) wm_117 rfl (Or.inl rfl) dX7_scanWord_125 e5 ?_
  refine tj_iconst (v := 1) ok dX7_scanWord_128 (by decide) ?_
  refine tj_iadd ok dX7_scanWord_129 ?_
  refine tj_iaload ok dX7_scanWord_130 e6 ?_
  refine tj_callV (rest := ([.inr (.inr (s0))] : List TV).map (vl g)) (as := [.inl (x3), .inl (x6)]) ok lev (by omega) fcX7.1 (by decide) rfl (of_if e7).1 (k8 g) (CaX.of en (by omega)) kn_X7_nameOfTwo wm_1008 wm_1009 wm_1010 (rs_ok (Nat.le_of_ble_eq_true rfl)) rfl rfl dX7_scanWord_131 ?_
  refine tj_goto (tgt := 138) ok dX7_scanWord_134 (by decide) ?_
  refine tj_sub (lv' := []) [] rfl ?_
  exact J.2 X g K ok nmx lev hK en
def b_X7_scanWord_96 (a0 : Nat) (h : AH) : Option (AH) :=
  (g_i h a0 7 2).bind fun x1 => (g_i h a0 7 4).bind fun x2 => if x2 ≤ (x1 + (1 : Int32)) then b_X7_scanWord_137 a0 h else b_X7_scanWord_110 a0 a0 h
set_option maxHeartbeats 4000000 in
set_option maxRecDepth 100000 in
theorem q_X7_scanWord_96 {a0 : Nat} {h hE : AH} (hf : b_X7_scanWord_96 a0 h = some hE) : JD cX7_scanWord 1 RX7 "scanWord" none (9) 96 [(0, .inr (.inr (a0)))] [] h hE none := by
  unfold b_X7_scanWord_96 at hf
  obtain ⟨x1, e1, hf⟩ := bnd hf
  obtain ⟨x2, e2, hf⟩ := bnd hf
  have mE : hp_n h ≤ hp_n hE ∧ hp_s h ≤ hp_s hE := by
    by_cases hc : x2 ≤ (x1 + (1 : Int32))
    · rw [if_pos hc] at hf; exact (q_X7_scanWord_137 hf).1
    · rw [if_neg hc] at hf; exact (q_X7_scanWord_110 hf).1
  refine ⟨by omega, fun X g K ok nmx lev hK en => ?_⟩
  refine tj_aload_n ok 0 dX7_scanWord_96 rfl rfl ?_
  refine tj_aload_n ok 0 dX7_scanWord_97 rfl rfl ?_
  refine tj_getI (k := 2) ok fcX7 (by decide) wm_117 rfl (Or.inl rfl) dX7_scanWord_98 e1 ?_
  refine tj_iconst (v := 1) ok dX7_scanWord_101 (by decide) ?_
  refine tj_iadd ok dX7_scanWord_102 ?_
  refine tj_aload_n ok 0 dX7_scanWord_103 rfl rfl ?_
  refine tj_getI (k := 4) ok fcX7 (by decide) wm_119 rfl (Or.inl rfl) dX7_scanWord_104 e2 ?_
  refine tj_icmp_ge (tgt := 137) ok dX7_scanWord_107 (by decide) (fun hc => ?_) (fun hc => ?_)
  · rw [if_pos hc] at hf
    refine tj_sub (lv' := []) [] rfl ?_
    exact (q_X7_scanWord_137 hf).2 X g K ok nmx lev hK en
  · rw [if_neg hc] at hf
    exact (q_X7_scanWord_110 hf).2 X g K ok nmx lev hK en
def b_X7_scanWord_144 (a0 : Nat) (h : AH) : Option (AH) :=
  (ok_v h a0 7).bind fun x1 => (f_X7_longWord a0 h).bind fun q2 => (p_i q2.2 a0 7 0 q2.1).bind fun h3 => b_X7_scanWord_152 h3
set_option maxHeartbeats 4000000 in
set_option maxRecDepth 100000 in
theorem q_X7_scanWord_144 {a0 : Nat} {h hE : AH} (hf : b_X7_scanWord_144 a0 h = some hE) : JD cX7_scanWord 1 RX7 "scanWord" none (9) 144 [(0, .inr (.inr (a0)))] [] h hE none := by
  unfold b_X7_scanWord_144 at hf
  obtain ⟨x1, e1, hf⟩ := bnd hf
  obtain ⟨⟨x2, h2⟩, e2, hf⟩ := bnd hf
  try dsimp only at hf
  have k2 := c_X7_longWord e2
  have m2 := (k2 default_g).1
  obtain ⟨h3, e3, hf⟩ := bnd hf
  have m3 := nn_pi e3
  have J := q_X7_scanWord_152 hf
  have mE := J.1
  refine ⟨by omega, fun X g K ok nmx lev hK en => ?_⟩
  refine tj_aload_n ok 0 dX7_scanWord_144 rfl rfl ?_
  refine tj_aload_n ok 0 dX7_scanWord_145 rfl rfl ?_
  refine tj_callV (rest := ([.inr (.inr (a0))] : List TV).map (vl g)) (as := []) ok lev (by omega) fcX7.1 (by decide) rfl (of_if e1).1 (k2 g) (CaX.of en (by omega)) kn_X7_longWord wm_1011 wm_1012 wm_1013 (rs_ok (Nat.le_of_ble_eq_true rfl)) rfl rfl dX7_scanWord_146 ?_
  refine tj_putI (k := 0) ok fcX7 (by decide) wm_115 rfl (Or.inl rfl) rfl dX7_scanWord_149 e3 ?_
  refine tj_sub (lv' := []) [] rfl ?_
  exact J.2 X g K ok nmx lev hK en
def b_X7_scanWord_39 (a0 : Nat) (h : AH) : Option (AH) :=
  (g_i h a0 7 5).bind fun x1 => (g_i h a0 7 2).bind fun x2 => if (x1 - x2) = 1 then b_X7_scanWord_76 a0 h else if (x1 - x2) = 2 then b_X7_scanWord_96 a0 h else b_X7_scanWord_144 a0 h
set_option maxHeartbeats 4000000 in
set_option maxRecDepth 100000 in
theorem q_X7_scanWord_39 {a0 : Nat} {h hE : AH} (hf : b_X7_scanWord_39 a0 h = some hE) : JD cX7_scanWord 1 RX7 "scanWord" none (9) 39 [(0, .inr (.inr (a0)))] [] h hE none := by
  unfold b_X7_scanWord_39 at hf
  obtain ⟨x1, e1, hf⟩ := bnd hf
  obtain ⟨x2, e2, hf⟩ := bnd hf
  have mE : hp_n h ≤ hp_n hE ∧ hp_s h ≤ hp_s hE := by
    by_cases hc0 : (x1 - x2) = 1
    · rw [if_pos hc0] at hf; exact (q_X7_scanWord_76 hf).1
    rw [if_neg hc0] at hf
    by_cases hc1 : (x1 - x2) = 2
    · rw [if_pos hc1] at hf; exact (q_X7_scanWord_96 hf).1
    rw [if_neg hc1] at hf
    exact (q_X7_scanWord_144 hf).1
  refine ⟨by omega, fun X g K ok nmx lev hK en => ?_⟩
  refine tj_aload_n ok 0 dX7_scanWord_39 rfl rfl ?_
  refine tj_getI (k := 5) ok fcX7 (by decide) wm_120 rfl (Or.inl rfl) dX7_scanWord_40 e1 ?_
  refine tj_aload_n ok 0 dX7_scanWord_43 rfl rfl ?_
  refine tj_getI (k := 2) ok fcX7 (by decide) wm_117 rfl (Or.inl rfl) dX7_scanWord_44 e2 ?_
  refine tj_isub ok dX7_scanWord_47 ?_
  by_cases hc0 : (x1 - x2) = 1
  · rw [if_pos hc0] at hf
    have hx : ((x1 - x2)).toInt = 1 := by rw [hc0]; decide
    refine tj_lookup (off := 28) (tgt := 76) ok dX7_scanWord_48 (by decide) (by rw [hx]; decide) (by decide) ?_
    exact (q_X7_scanWord_76 hf).2 X g K ok nmx lev hK en
  rw [if_neg hc0] at hf
  have hn0 := tn_i (n := 1) (by decide) hc0
  have hp0 := tn_j hn0
  by_cases hc1 : (x1 - x2) = 2
  · rw [if_pos hc1] at hf
    have hx : ((x1 - x2)).toInt = 2 := by rw [hc1]; decide
    refine tj_lookup (off := 48) (tgt := 96) ok dX7_scanWord_48 (by decide) (by rw [hx]; decide) (by decide) ?_
    exact (q_X7_scanWord_96 hf).2 X g K ok nmx lev hK en
  rw [if_neg hc1] at hf
  have hn1 := tn_i (n := 2) (by decide) hc1
  have hp1 := tn_j hn1
  refine tj_lookup (off := 96) (tgt := 144) ok dX7_scanWord_48 (by decide) (by show Op.lookupswitch.offset [(1, 28), (2, 48)] (96) _ = _; simp only [Op.lookupswitch.offset, hp0, hp1, if_false]) (by decide) ?_
  exact (q_X7_scanWord_144 hf).2 X g K ok nmx lev hK en
def b_X7_scanWord_26 (r0 : Nat → AH → Option (AH)) (a0 : Nat) (h : AH) : Option (AH) :=
  (g_i h a0 7 5).bind fun x1 => (p_i h a0 7 5 (x1 + (1 : Int32))).bind fun h2 => r0 a0 h2
set_option maxHeartbeats 4000000 in
set_option maxRecDepth 100000 in
theorem q_X7_scanWord_26 {hE : AH} {r0 : Nat → AH → Option (AH)} (hr0 : ∀ (b0 : Nat) (h : AH), r0 b0 h = some hE → JD cX7_scanWord 1 RX7 "scanWord" none (9) 0 [(0, .inr (.inr (b0)))] [] h hE none) {a0 : Nat} {h : AH} (hf : b_X7_scanWord_26 r0 a0 h = some hE) : JD cX7_scanWord 1 RX7 "scanWord" none (9) 26 [(0, .inr (.inr (a0)))] [] h hE none := by
  unfold b_X7_scanWord_26 at hf
  obtain ⟨x1, e1, hf⟩ := bnd hf
  obtain ⟨h2, e2, hf⟩ := bnd hf
  have m2 := nn_pi e2
  have J := hr0 _ _ hf
  have mE := J.1
  refine ⟨by omega, fun X g K ok nmx lev hK en => ?_⟩
  refine tj_aload_n ok 0 dX7_scanWord_26 rfl rfl ?_
  refine tj_dupa ok dX7_scanWord_27 ?_
  refine tj_getI (k := 5) ok fcX7 (by decide) wm_120 rfl (Or.inl rfl) dX7_scanWord_28 e1 ?_
  refine tj_iconst (v := 1) ok dX7_scanWord_31 (by decide) ?_
  refine tj_iadd ok dX7_scanWord_32 ?_
  refine tj_putI (k := 5) ok fcX7 (by decide) wm_120 rfl (Or.inl rfl) rfl dX7_scanWord_33 e2 ?_
  refine tj_goto (tgt := 0) ok dX7_scanWord_36 (by decide) ?_
  exact J.2 X g K ok nmx lev hK en
def b_X7_scanWord_11 (r0 : Nat → AH → Option (AH)) (a0 : Nat) (h : AH) : Option (AH) :=
  (g_r h a0 7 3).bind fun x1 => (g_i h a0 7 5).bind fun x2 => (l_i h x1 x2).bind fun x3 => (f_X7_isWordSign x3 h).bind fun q4 => if q4.1 = 0 then b_X7_scanWord_39 a0 q4.2 else b_X7_scanWord_26 r0 a0 q4.2
set_option maxHeartbeats 4000000 in
set_option maxRecDepth 100000 in
theorem q_X7_scanWord_11 {hE : AH} {r0 : Nat → AH → Option (AH)} (hr0 : ∀ (b0 : Nat) (h : AH), r0 b0 h = some hE → JD cX7_scanWord 1 RX7 "scanWord" none (9) 0 [(0, .inr (.inr (b0)))] [] h hE none) {a0 : Nat} {h : AH} (hf : b_X7_scanWord_11 r0 a0 h = some hE) : JD cX7_scanWord 1 RX7 "scanWord" none (9) 11 [(0, .inr (.inr (a0)))] [] h hE none := by
  unfold b_X7_scanWord_11 at hf
  obtain ⟨x1, e1, hf⟩ := bnd hf
  obtain ⟨x2, e2, hf⟩ := bnd hf
  obtain ⟨x3, e3, hf⟩ := bnd hf
  obtain ⟨⟨x4, h4⟩, e4, hf⟩ := bnd hf
  try dsimp only at hf
  have k4 := c_X7_isWordSign e4
  have m4 := (k4 default_g).1
  have mE : hp_n h4 ≤ hp_n hE ∧ hp_s h4 ≤ hp_s hE := by
    by_cases hc : x4 = 0
    · rw [if_pos hc] at hf; exact (q_X7_scanWord_39 hf).1
    · rw [if_neg hc] at hf; exact (q_X7_scanWord_26 hr0 hf).1
  refine ⟨by omega, fun X g K ok nmx lev hK en => ?_⟩
  refine tj_aload_n ok 0 dX7_scanWord_11 rfl rfl ?_
  refine tj_getR (k := 3) ok fcX7 (by decide) wm_118 rfl (Or.inr ⟨_, rfl⟩) dX7_scanWord_12 e1 ?_
  refine tj_aload_n ok 0 dX7_scanWord_15 rfl rfl ?_
  refine tj_getI (k := 5) ok fcX7 (by decide) wm_120 rfl (Or.inl rfl) dX7_scanWord_16 e2 ?_
  refine tj_iaload ok dX7_scanWord_19 e3 ?_
  refine tj_callS (rest := ([] : List TV).map (vl g)) (as := [.inl (x3)]) ok lev (by omega) (k4 g) (CaX.of en (by omega)) kn_X7_isWordSign wm_1014 wm_1015 (rs_ok (Nat.le_of_ble_eq_true rfl)) rfl rfl dX7_scanWord_20 ?_
  refine tj_if_eq (tgt := 39) ok dX7_scanWord_23 (by decide) (fun hc => ?_) (fun hc => ?_)
  · rw [if_pos hc] at hf
    exact (q_X7_scanWord_39 hf).2 X g K ok nmx lev hK en
  · rw [if_neg hc] at hf
    exact (q_X7_scanWord_26 hr0 hf).2 X g K ok nmx lev hK en
def b_X7_scanWord_0 (r0 : Nat → AH → Option (AH)) (a0 : Nat) (h : AH) : Option (AH) :=
  (g_i h a0 7 5).bind fun x1 => (g_i h a0 7 4).bind fun x2 => if x2 ≤ x1 then b_X7_scanWord_39 a0 h else b_X7_scanWord_11 r0 a0 h
set_option maxHeartbeats 4000000 in
set_option maxRecDepth 100000 in
theorem q_X7_scanWord_0 {hE : AH} {r0 : Nat → AH → Option (AH)} (hr0 : ∀ (b0 : Nat) (h : AH), r0 b0 h = some hE → JD cX7_scanWord 1 RX7 "scanWord" none (9) 0 [(0, .inr (.inr (b0)))] [] h hE none) {a0 : Nat} {h : AH} (hf : b_X7_scanWord_0 r0 a0 h = some hE) : JD cX7_scanWord 1 RX7 "scanWord" none (9) 0 [(0, .inr (.inr (a0)))] [] h hE none := by
  unfold b_X7_scanWord_0 at hf
  obtain ⟨x1, e1, hf⟩ := bnd hf
  obtain ⟨x2, e2, hf⟩ := bnd hf
  have mE : hp_n h ≤ hp_n hE ∧ hp_s h ≤ hp_s hE := by
    by_cases hc : x2 ≤ x1
    · rw [if_pos hc] at hf; exact (q_X7_scanWord_39 hf).1
    · rw [if_neg hc] at hf; exact (q_X7_scanWord_11 hr0 hf).1
  refine ⟨by omega, fun X g K ok nmx lev hK en => ?_⟩
  refine tj_aload_n ok 0 dX7_scanWord_0 rfl rfl ?_
  refine tj_getI (k := 5) ok fcX7 (by decide) wm_120 rfl (Or.inl rfl) dX7_scanWord_1 e1 ?_
  refine tj_aload_n ok 0 dX7_scanWord_4 rfl rfl ?_
  refine tj_getI (k := 4) ok fcX7 (by decide) wm_119 rfl (Or.inl rfl) dX7_scanWord_5 e2 ?_
  refine tj_icmp_ge (tgt := 39) ok dX7_scanWord_8 (by decide) (fun hc => ?_) (fun hc => ?_)
  · rw [if_pos hc] at hf
    exact (q_X7_scanWord_39 hf).2 X g K ok nmx lev hK en
  · rw [if_neg hc] at hf
    exact (q_X7_scanWord_11 hr0 hf).2 X g K ok nmx lev hK en
def l_X7_scanWord_0 : Nat → Nat → AH → Option (AH)
  | 0 => fun _ _ => none
  | n + 1 => fun a0 h => b_X7_scanWord_0 (l_X7_scanWord_0 n) a0 h
theorem ql_X7_scanWord_0 {n : Nat} {a0 : Nat} {h hE : AH} (hf : l_X7_scanWord_0 n a0 h = some hE) : JD cX7_scanWord 1 RX7 "scanWord" none (9) 0 [(0, .inr (.inr (a0)))] [] h hE none := by
  induction n generalizing a0 h with
  | zero => cases hf
  | succ n ih => exact q_X7_scanWord_0 (fun _ _ hf => ih hf) hf
def f_X7_scanWord (a0 : Nat) (h : AH) : Option (AH) := l_X7_scanWord_0 fu_ a0 h
theorem c_X7_scanWord {a0 : Nat} {h hE : AH} (hf : f_X7_scanWord a0 h = some hE) : ∀ g : GT, CM g (9) yX7_scanWord cX7_scanWord 1 none h [.inr (.inr (a0))] hE none :=
  CM.ofJ (by decide) (by show _ ≤ 1; exact Nat.le_of_ble_eq_true rfl) (ql_X7_scanWord_0 hf)
/-! ===== LitmusHouse$Scanner.scanToken()V ===== -/
def b_X7_scanToken_101  (h : AH) : Option (AH) :=
  some h
set_option maxHeartbeats 4000000 in
set_option maxRecDepth 100000 in
theorem q_X7_scanToken_101 {h hE : AH} (hf : b_X7_scanToken_101  h = some hE) : JD cX7_scanToken 1 RX7 "scanToken" none (10) 101 [] [] h hE none := by
  unfold b_X7_scanToken_101 at hf
  have hh := Option.some.inj hf
  subst hh
  have mE : hp_n h ≤ hp_n h ∧ hp_s h ≤ hp_s h := ⟨Nat.le_refl _, Nat.le_refl _⟩
  refine ⟨by omega, fun X g K ok nmx lev hK en => ?_⟩
  exact tj_return ok en dX7_scanToken_101
def b_X7_scanToken_60 (a0 : Nat) (h : AH) : Option (AH) :=
  (g_r h a0 7 6).bind fun x1 => (g_i h a0 7 7).bind fun x2 => (g_i h a0 7 2).bind fun x3 => (g_i h a0 7 1).bind fun x4 => (g_i h a0 7 0).bind fun x5 => (s_i h x1 x2 (((x3 <<< ((16 : Int32) &&& 31)) ||| ((x4 + (1 : Int32)) <<< ((8 : Int32) &&& 31))) ||| x5)).bind fun h6 => (g_i h6 a0 7 7).bind fun x7 => (p_i h6 a0 7 7 (x7 + (1 : Int32))).bind fun h8 => b_X7_scanToken_101 h8
set_option maxHeartbeats 4000000 in
set_option maxRecDepth 100000 in
theorem q_X7_scanToken_60 {a0 : Nat} {h hE : AH} (hf : b_X7_scanToken_60 a0 h = some hE) : JD cX7_scanToken 1 RX7 "scanToken" none (10) 60 [(0, .inr (.inr (a0)))] [] h hE none := by
  unfold b_X7_scanToken_60 at hf
  obtain ⟨x1, e1, hf⟩ := bnd hf
  obtain ⟨x2, e2, hf⟩ := bnd hf
  obtain ⟨x3, e3, hf⟩ := bnd hf
  obtain ⟨x4, e4, hf⟩ := bnd hf
  obtain ⟨x5, e5, hf⟩ := bnd hf
  obtain ⟨h6, e6, hf⟩ := bnd hf
  have m6 := nn_si e6
  obtain ⟨x7, e7, hf⟩ := bnd hf
  obtain ⟨h8, e8, hf⟩ := bnd hf
  have m8 := nn_pi e8
  have J := q_X7_scanToken_101 hf
  have mE := J.1
  refine ⟨by omega, fun X g K ok nmx lev hK en => ?_⟩
  refine tj_aload_n ok 0 dX7_scanToken_60 rfl rfl ?_
  refine tj_getR (k := 6) ok fcX7 (by decide) wm_121 rfl (Or.inr ⟨_, rfl⟩) dX7_scanToken_61 e1 ?_
  refine tj_aload_n ok 0 dX7_scanToken_64 rfl rfl ?_
  refine tj_getI (k := 7) ok fcX7 (by decide) wm_122 rfl (Or.inl rfl) dX7_scanToken_65 e2 ?_
  refine tj_aload_n ok 0 dX7_scanToken_68 rfl rfl ?_
  refine tj_getI (k := 2) ok fcX7 (by decide) wm_117 rfl (Or.inl rfl) dX7_scanToken_69 e3 ?_
  refine tj_bipush (v := 16) ok dX7_scanToken_72 (by decide) ?_
  refine tj_ishl ok dX7_scanToken_74 ?_
  refine tj_aload_n ok 0 dX7_scanToken_75 rfl rfl ?_
  refine tj_getI (k := 1) ok fcX7 (by decide) wm_116 rfl (Or.inl rfl) dX7_scanToken_76 e4 ?_
  refine tj_iconst (v := 1) ok dX7_scanToken_79 (by decide) ?_
  refine tj_iadd ok dX7_scanToken_80 ?_
  refine tj_bipush (v := 8) ok dX7_scanToken_81 (by decide) ?_
  refine tj_ishl ok dX7_scanToken_83 ?_
  refine tj_ior ok dX7_scanToken_84 ?_
  refine tj_aload_n ok 0 dX7_scanToken_85 rfl rfl ?_
  refine tj_getI (k := 0) ok fcX7 (by decide) wm_115 rfl (Or.inl rfl) dX7_scanToken_86 e5 ?_
  refine tj_ior ok dX7_scanToken_89 ?_
  refine tj_iastore ok dX7_scanToken_90 e6 ?_
  refine tj_aload_n ok 0 dX7_scanToken_91 rfl rfl ?_
  refine tj_dupa ok dX7_scanToken_92 ?_
  refine tj_getI (k := 7) ok fcX7 (by decide) wm_122 rfl (Or.inl rfl) dX7_scanToken_93 e7 ?_
  refine tj_iconst (v := 1) ok dX7_scanToken_96 (by decide) ?_
  refine tj_iadd ok dX7_scanToken_97 ?_
  refine tj_putI (k := 7) ok fcX7 (by decide) wm_122 rfl (Or.inl rfl) rfl dX7_scanToken_98 e8 ?_
  refine tj_sub (lv' := []) [] rfl ?_
  exact J.2 X g K ok nmx lev hK en
def b_X7_scanToken_48 (a0 : Nat) (h : AH) : Option (AH) :=
  (g_i h a0 7 7).bind fun x1 => (g_r h a0 7 6).bind fun x2 => (al_n h x2).bind fun x3 => if x3 ≤ x1 then b_X7_scanToken_101 h else b_X7_scanToken_60 a0 h
set_option maxHeartbeats 4000000 in
set_option maxRecDepth 100000 in
theorem q_X7_scanToken_48 {a0 : Nat} {h hE : AH} (hf : b_X7_scanToken_48 a0 h = some hE) : JD cX7_scanToken 1 RX7 "scanToken" none (10) 48 [(0, .inr (.inr (a0)))] [] h hE none := by
  unfold b_X7_scanToken_48 at hf
  obtain ⟨x1, e1, hf⟩ := bnd hf
  obtain ⟨x2, e2, hf⟩ := bnd hf
  obtain ⟨x3, e3, hf⟩ := bnd hf
  have mE : hp_n h ≤ hp_n hE ∧ hp_s h ≤ hp_s hE := by
    by_cases hc : x3 ≤ x1
    · rw [if_pos hc] at hf; exact (q_X7_scanToken_101 hf).1
    · rw [if_neg hc] at hf; exact (q_X7_scanToken_60 hf).1
  refine ⟨by omega, fun X g K ok nmx lev hK en => ?_⟩
  refine tj_aload_n ok 0 dX7_scanToken_48 rfl rfl ?_
  refine tj_getI (k := 7) ok fcX7 (by decide) wm_122 rfl (Or.inl rfl) dX7_scanToken_49 e1 ?_
  refine tj_aload_n ok 0 dX7_scanToken_52 rfl rfl ?_
  refine tj_getR (k := 6) ok fcX7 (by decide) wm_121 rfl (Or.inr ⟨_, rfl⟩) dX7_scanToken_53 e2 ?_
  refine tj_alen ok dX7_scanToken_56 e3 ?_
  refine tj_icmp_ge (tgt := 101) ok dX7_scanToken_57 (by decide) (fun hc => ?_) (fun hc => ?_)
  · rw [if_pos hc] at hf
    refine tj_sub (lv' := []) [] rfl ?_
    exact (q_X7_scanToken_101 hf).2 X g K ok nmx lev hK en
  · rw [if_neg hc] at hf
    exact (q_X7_scanToken_60 hf).2 X g K ok nmx lev hK en
def b_X7_scanToken_35 (a0 : Nat) (h : AH) : Option (AH) :=
  (g_r h a0 7 3).bind fun x1 => (g_i h a0 7 5).bind fun x2 => (l_i h x1 x2).bind fun x3 => (ok_v h a0 7).bind fun x4 => (f_X7_scanSign a0 x3 h).bind fun h5 => b_X7_scanToken_48 a0 h5
set_option maxHeartbeats 4000000 in
set_option maxRecDepth 100000 in
theorem q_X7_scanToken_35 {a0 : Nat} {h hE : AH} (hf : b_X7_scanToken_35 a0 h = some hE) : JD cX7_scanToken 1 RX7 "scanToken" none (10) 35 [(0, .inr (.inr (a0)))] [] h hE none := by
  unfold b_X7_scanToken_35 at hf
  obtain ⟨x1, e1, hf⟩ := bnd hf
  obtain ⟨x2, e2, hf⟩ := bnd hf
  obtain ⟨x3, e3, hf⟩ := bnd hf
  obtain ⟨x4, e4, hf⟩ := bnd hf
  obtain ⟨h5, e5, hf⟩ := bnd hf
  have k5 := c_X7_scanSign e5
  have m5 := (k5 default_g).1
  have J := q_X7_scanToken_48 hf
  have mE := J.1
  refine ⟨by omega, fun X g K ok nmx lev hK en => ?_⟩
  refine tj_aload_n ok 0 dX7_scanToken_35 rfl rfl ?_
  refine tj_aload_n ok 0 dX7_scanToken_36 rfl rfl ?_
  refine tj_getR (k := 3) ok fcX7 (by decide) wm_118 rfl (Or.inr ⟨_, rfl⟩) dX7_scanToken_37 e1 ?_
  refine tj_aload_n ok 0 dX7_scanToken_40 rfl rfl ?_
  refine tj_getI (k := 5) ok fcX7 (by decide) wm_120 rfl (Or.inl rfl) dX7_scanToken_41 e2 ?_
  refine tj_iaload ok dX7_scanToken_44 e3 ?_
  refine tj_callV (rest := ([] : List TV).map (vl g)) (as := [.inl (x3)]) ok lev (by omega) fcX7.1 (by decide) rfl (of_if e4).1 (k5 g) (CaX.of en (by omega)) kn_X7_scanSign wm_1017 wm_1018 wm_1019 (rs_ok (Nat.le_of_ble_eq_true rfl)) rfl rfl dX7_scanToken_45 ?_
  exact J.2 X g K ok nmx lev hK en
def b_X7_scanToken_28 (a0 : Nat) (h : AH) : Option (AH) :=
  (ok_v h a0 7).bind fun x1 => (f_X7_scanWord a0 h).bind fun h2 => b_X7_scanToken_48 a0 h2
set_option maxHeartbeats 4000000 in
set_option maxRecDepth 100000 in
theorem q_X7_scanToken_28 {a0 : Nat} {h hE : AH} (hf : b_X7_scanToken_28 a0 h = some hE) : JD cX7_scanToken 1 RX7 "scanToken" none (10) 28 [(0, .inr (.inr (a0)))] [] h hE none := by
  unfold b_X7_scanToken_28 at hf
  obtain ⟨x1, e1, hf⟩ := bnd hf
  obtain ⟨h2, e2, hf⟩ := bnd hf
  have k2 := c_X7_scanWord e2
  have m2 := (k2 default_g).1
  have J := q_X7_scanToken_48 hf
  have mE := J.1
  refine ⟨by omega, fun X g K ok nmx lev hK en => ?_⟩
  refine tj_aload_n ok 0 dX7_scanToken_28 rfl rfl ?_
  refine tj_callV (rest := ([] : List TV).map (vl g)) (as := []) ok lev (by omega) fcX7.1 (by decide) rfl (of_if e1).1 (k2 g) (CaX.of en (by omega)) kn_X7_scanWord wm_1020 wm_1021 wm_1022 (rs_ok (Nat.le_of_ble_eq_true rfl)) rfl rfl dX7_scanToken_29 ?_
  refine tj_goto (tgt := 48) ok dX7_scanToken_32 (by decide) ?_
  exact J.2 X g K ok nmx lev hK en
def b_X7_scanToken_0 (a0 : Nat) (h : AH) : Option (AH) :=
  (g_i h a0 7 5).bind fun x1 => (p_i h a0 7 2 x1).bind fun h2 => (p_i h2 a0 7 1 (-1 : Int32)).bind fun h3 => (g_r h3 a0 7 3).bind fun x4 => (g_i h3 a0 7 5).bind fun x5 => (l_i h3 x4 x5).bind fun x6 => (f_X7_isWordSign x6 h3).bind fun q7 => if q7.1 = 0 then b_X7_scanToken_35 a0 q7.2 else b_X7_scanToken_28 a0 q7.2
set_option maxHeartbeats 4000000 in
set_option maxRecDepth 100000 in
theorem q_X7_scanToken_0 {a0 : Nat} {h hE : AH} (hf : b_X7_scanToken_0 a0 h = some hE) : JD cX7_scanToken 1 RX7 "scanToken" none (10) 0 [(0, .inr (.inr (a0)))] [] h hE none := by
  unfold b_X7_scanToken_0 at hf
  obtain ⟨x1, e1, hf⟩ := bnd hf
  obtain ⟨h2, e2, hf⟩ := bnd hf
  have m2 := nn_pi e2
  obtain ⟨h3, e3, hf⟩ := bnd hf
  have m3 := nn_pi e3
  obtain ⟨x4, e4, hf⟩ := bnd hf
  obtain ⟨x5, e5, hf⟩ := bnd hf
  obtain ⟨x6, e6, hf⟩ := bnd hf
  obtain ⟨⟨x7, h7⟩, e7, hf⟩ := bnd hf
  try dsimp only at hf
  have k7 := c_X7_isWordSign e7
  have m7 := (k7 default_g).1
  have mE : hp_n h7 ≤ hp_n hE ∧ hp_s h7 ≤ hp_s hE := by
    by_cases hc : x7 = 0
    · rw [if_pos hc] at hf; exact (q_X7_scanToken_35 hf).1
    · rw [if_neg hc] at hf; exact (q_X7_scanToken_28 hf).1
  refine ⟨by omega, fun X g K ok nmx lev hK en => ?_⟩
  refine tj_aload_n ok 0 dX7_scanToken_0 rfl rfl ?_
  refine tj_aload_n ok 0 dX7_scanToken_1 rfl rfl ?_
  refine tj_getI (k := 5) ok fcX7 (by decide) wm_120 rfl (Or.inl rfl) dX7_scanToken_2 e1 ?_
  refine tj_putI (k := 2) ok fcX7 (by decide) wm_117 rfl (Or.inl rfl) rfl dX7_scanToken_5 e2 ?_
  refine tj_aload_n ok 0 dX7_scanToken_8 rfl rfl ?_
  refine tj_iconst (v := -1) ok dX7_scanToken_9 (by decide) ?_
  refine tj_putI (k := 1) ok fcX7 (by decide) wm_116 rfl (Or.inl rfl) rfl dX7_scanToken_10 e3 ?_
  refine tj_aload_n ok 0 dX7_scanToken_13 rfl rfl ?_
  refine tj_getR (k := 3) ok fcX7 (by decide) wm_118 rfl (Or.inr ⟨_, rfl⟩) dX7_scanToken_14 e4 ?_
  refine tj_aload_n ok 0 dX7_scanToken_17 rfl rfl ?_
  refine tj_getI (k := 5) ok fcX7 (by decide) wm_120 rfl (Or.inl rfl) dX7_scanToken_18 e5 ?_
  refine tj_iaload ok dX7_scanToken_21 e6 ?_
  refine tj_callS (rest := ([] : List TV).map (vl g)) (as := [.inl (x6)]) ok lev (by omega) (k7 g) (CaX.of en (by omega)) kn_X7_isWordSign wm_1014 wm_1015 (rs_ok (Nat.le_of_ble_eq_true rfl)) rfl rfl dX7_scanToken_22 ?_
  refine tj_if_eq (tgt := 35) ok dX7_scanToken_25 (by decide) (fun hc => ?_) (fun hc => ?_)
  · rw [if_pos hc] at hf
    exact (q_X7_scanToken_35 hf).2 X g K ok nmx lev hK en
  · rw [if_neg hc] at hf
    exact (q_X7_scanToken_28 hf).2 X g K ok nmx lev hK en
def f_X7_scanToken (a0 : Nat) (h : AH) : Option (AH) := b_X7_scanToken_0  a0 h
theorem c_X7_scanToken {a0 : Nat} {h hE : AH} (hf : f_X7_scanToken a0 h = some hE) : ∀ g : GT, CM g (10) yX7_scanToken cX7_scanToken 1 none h [.inr (.inr (a0))] hE none :=
  CM.ofJ (by decide) (by show _ ≤ 1; exact Nat.le_of_ble_eq_true rfl) (q_X7_scanToken_0 hf)
/-! ===== LitmusHouse$Scanner.begin([II)V ===== -/
def b_X7_begin_110 (a0 : Nat) (h : AH) : Option (AH) :=
  (p_i h a0 7 8 (-1 : Int32)).bind fun h1 => (ok_v h1 a0 7).bind fun x2 => (f_X7_advance a0 h1).bind fun h3 => some h3
set_option maxHeartbeats 4000000 in
set_option maxRecDepth 100000 in
theorem q_X7_begin_110 {a0 : Nat} {h hE : AH} (hf : b_X7_begin_110 a0 h = some hE) : JD cX7_begin 4 RX7 "begin" none (11) 110 [(0, .inr (.inr (a0)))] [] h hE none := by
  unfold b_X7_begin_110 at hf
  obtain ⟨h1, e1, hf⟩ := bnd hf
  have m1 := nn_pi e1
  obtain ⟨x2, e2, hf⟩ := bnd hf
  obtain ⟨h3, e3, hf⟩ := bnd hf
  have k3 := c_X7_advance e3
  have m3 := (k3 default_g).1
  have hh := Option.some.inj hf
  subst hh
  have mE : hp_n h3 ≤ hp_n h3 ∧ hp_s h3 ≤ hp_s h3 := ⟨Nat.le_refl _, Nat.le_refl _⟩
  refine ⟨by omega, fun X g K ok nmx lev hK en => ?_⟩
  refine tj_aload_n ok 0 dX7_begin_110 rfl rfl ?_
  refine tj_iconst (v := -1) ok dX7_begin_111 (by decide) ?_
  refine tj_putI (k := 8) ok fcX7 (by decide) wm_123 rfl (Or.inl rfl) rfl dX7_begin_112 e1 ?_
  refine tj_aload_n ok 0 dX7_begin_115 rfl rfl ?_
  refine tj_callV (rest := ([] : List TV).map (vl g)) (as := []) ok lev (by omega) fcX7.1 (by decide) rfl (of_if e2).1 (k3 g) (CaX.of en (by omega)) kn_X7_advance wm_1024 wm_1025 wm_1026 (rs_ok (Nat.le_of_ble_eq_true rfl)) rfl rfl dX7_begin_116 ?_
  exact tj_return ok en dX7_begin_119
def b_X7_begin_104 (r41 : Nat → Int32 → AH → Option (AH)) (a0 : Nat) (a3 : Int32) (h : AH) : Option (AH) :=
  r41 a0 (a3 + (1 : Int32)) h
set_option maxHeartbeats 4000000 in
set_option maxRecDepth 100000 in
theorem q_X7_begin_104 {hE : AH} {r41 : Nat → Int32 → AH → Option (AH)} (hr41 : ∀ (b0 : Nat) (b3 : Int32) (h : AH), r41 b0 b3 h = some hE → JD cX7_begin 4 RX7 "begin" none (11) 41 [(0, .inr (.inr (b0))), (3, .inl (b3))] [] h hE none) {a0 : Nat} {a3 : Int32} {h : AH} (hf : b_X7_begin_104 r41 a0 a3 h = some hE) : JD cX7_begin 4 RX7 "begin" none (11) 104 [(0, .inr (.inr (a0))), (3, .inl (a3))] [] h hE none := by
  unfold b_X7_begin_104 at hf
  have J := hr41 _ _ _ hf
  have mE := J.1
  refine ⟨by omega, fun X g K ok nmx lev hK en => ?_⟩
  refine tj_iinc (lv' := [(0, .inr (.inr (a0))), (3, .inl (a3 + (1 : Int32)))]) ok 1 dX7_begin_104 rfl (rfl) (by decide) rfl ?_
  refine tj_goto (tgt := 41) ok dX7_begin_107 (by decide) ?_
  exact J.2 X g K ok nmx lev hK en
def b_X7_begin_87 (r41 : Nat → Int32 → AH → Option (AH)) (a0 : Nat) (a3 : Int32) (h : AH) : Option (AH) :=
  (g_i h a0 7 5).bind fun x1 => (p_i h a0 7 5 (x1 + (1 : Int32))).bind fun h2 => b_X7_begin_104 r41 a0 a3 h2
set_option maxHeartbeats 4000000 in
set_option maxRecDepth 100000 in
theorem q_X7_begin_87 {hE : AH} {r41 : Nat → Int32 → AH → Option (AH)} (hr41 : ∀ (b0 : Nat) (b3 : Int32) (h : AH), r41 b0 b3 h = some hE → JD cX7_begin 4 RX7 "begin" none (11) 41 [(0, .inr (.inr (b0))), (3, .inl (b3))] [] h hE none) {a0 : Nat} {a3 : Int32} {h : AH} (hf : b_X7_begin_87 r41 a0 a3 h = some hE) : JD cX7_begin 4 RX7 "begin" none (11) 87 [(0, .inr (.inr (a0))), (3, .inl (a3))] [] h hE none := by
  unfold b_X7_begin_87 at hf
  obtain ⟨x1, e1, hf⟩ := bnd hf
  obtain ⟨h2, e2, hf⟩ := bnd hf
  have m2 := nn_pi e2
  have J := q_X7_begin_104 hr41 hf
  have mE := J.1
  refine ⟨by omega, fun X g K ok nmx lev hK en => ?_⟩
  refine tj_aload_n ok 0 dX7_begin_87 rfl rfl ?_
  refine tj_dupa ok dX7_begin_88 ?_
  refine tj_getI (k := 5) ok fcX7 (by decide) wm_120 rfl (Or.inl rfl) dX7_begin_89 e1 ?_
  refine tj_iconst (v := 1) ok dX7_begin_92 (by decide) ?_
  refine tj_iadd ok dX7_begin_93 ?_
  refine tj_putI (k := 5) ok fcX7 (by decide) wm_120 rfl (Or.inl rfl) rfl dX7_begin_94 e2 ?_
  refine tj_goto (tgt := 104) ok dX7_begin_97 (by decide) ?_
  exact J.2 X g K ok nmx lev hK en
def b_X7_begin_100 (r41 : Nat → Int32 → AH → Option (AH)) (a0 : Nat) (a3 : Int32) (h : AH) : Option (AH) :=
  (ok_v h a0 7).bind fun x1 => (f_X7_scanToken a0 h).bind fun h2 => b_X7_begin_104 r41 a0 a3 h2
set_option maxHeartbeats 4000000 in
set_option maxRecDepth 100000 in
theorem q_X7_begin_100 {hE : AH} {r41 : Nat → Int32 → AH → Option (AH)} (hr41 : ∀ (b0 : Nat) (b3 : Int32) (h : AH), r41 b0 b3 h = some hE → JD cX7_begin 4 RX7 "begin" none (11) 41 [(0, .inr (.inr (b0))), (3, .inl (b3))] [] h hE none) {a0 : Nat} {a3 : Int32} {h : AH} (hf : b_X7_begin_100 r41 a0 a3 h = some hE) : JD cX7_begin 4 RX7 "begin" none (11) 100 [(0, .inr (.inr (a0))), (3, .inl (a3))] [] h hE none := by
  unfold b_X7_begin_100 at hf
  obtain ⟨x1, e1, hf⟩ := bnd hf
  obtain ⟨h2, e2, hf⟩ := bnd hf
  have k2 := c_X7_scanToken e2
  have m2 := (k2 default_g).1
  have J := q_X7_begin_104 hr41 hf
  have mE := J.1
  refine ⟨by omega, fun X g K ok nmx lev hK en => ?_⟩
  refine tj_aload_n ok 0 dX7_begin_100 rfl rfl ?_
  refine tj_callV (rest := ([] : List TV).map (vl g)) (as := []) ok lev (by omega) fcX7.1 (by decide) rfl (of_if e1).1 (k2 g) (CaX.of en (by omega)) kn_X7_scanToken wm_1027 wm_1028 wm_1029 (rs_ok (Nat.le_of_ble_eq_true rfl)) rfl rfl dX7_begin_101 ?_
  exact J.2 X g K ok nmx lev hK en
def b_X7_begin_73 (r41 : Nat → Int32 → AH → Option (AH)) (a0 : Nat) (a3 : Int32) (h : AH) : Option (AH) :=
  (g_r h a0 7 3).bind fun x1 => (g_i h a0 7 5).bind fun x2 => (l_i h x1 x2).bind fun x3 => if x3 = (10 : Int32) then b_X7_begin_87 r41 a0 a3 h else b_X7_begin_100 r41 a0 a3 h
set_option maxHeartbeats 4000000 in
set_option maxRecDepth 100000 in
theorem q_X7_begin_73 {hE : AH} {r41 : Nat → Int32 → AH → Option (AH)} (hr41 : ∀ (b0 : Nat) (b3 : Int32) (h : AH), r41 b0 b3 h = some hE → JD cX7_begin 4 RX7 "begin" none (11) 41 [(0, .inr (.inr (b0))), (3, .inl (b3))] [] h hE none) {a0 : Nat} {a3 : Int32} {h : AH} (hf : b_X7_begin_73 r41 a0 a3 h = some hE) : JD cX7_begin 4 RX7 "begin" none (11) 73 [(0, .inr (.inr (a0))), (3, .inl (a3))] [] h hE none := by
  unfold b_X7_begin_73 at hf
  obtain ⟨x1, e1, hf⟩ := bnd hf
  obtain ⟨x2, e2, hf⟩ := bnd hf
  obtain ⟨x3, e3, hf⟩ := bnd hf
  have mE : hp_n h ≤ hp_n hE ∧ hp_s h ≤ hp_s hE := by
    by_cases hc : x3 = (10 : Int32)
    · rw [if_pos hc] at hf; exact (q_X7_begin_87 hr41 hf).1
    · rw [if_neg hc] at hf; exact (q_X7_begin_100 hr41 hf).1
  refine ⟨by omega, fun X g K ok nmx lev hK en => ?_⟩
  refine tj_aload_n ok 0 dX7_begin_73 rfl rfl ?_
  refine tj_getR (k := 3) ok fcX7 (by decide) wm_118 rfl (Or.inr ⟨_, rfl⟩) dX7_begin_74 e1 ?_
  refine tj_aload_n ok 0 dX7_begin_77 rfl rfl ?_
  refine tj_getI (k := 5) ok fcX7 (by decide) wm_120 rfl (Or.inl rfl) dX7_begin_78 e2 ?_
  refine tj_iaload ok dX7_begin_81 e3 ?_
  refine tj_bipush (v := 10) ok dX7_begin_82 (by decide) ?_
  refine tj_icmp_ne (tgt := 100) ok dX7_begin_84 (by decide) (fun hc => ?_) (fun hc => ?_)
  · rw [if_neg hc] at hf
    exact (q_X7_begin_100 hr41 hf).2 X g K ok nmx lev hK en
  · rw [if_pos hc] at hf
    exact (q_X7_begin_87 hr41 hf).2 X g K ok nmx lev hK en
def b_X7_begin_59 (r41 : Nat → Int32 → AH → Option (AH)) (a0 : Nat) (a3 : Int32) (h : AH) : Option (AH) :=
  (g_r h a0 7 3).bind fun x1 => (g_i h a0 7 5).bind fun x2 => (l_i h x1 x2).bind fun x3 => if x3 = (32 : Int32) then b_X7_begin_87 r41 a0 a3 h else b_X7_begin_73 r41 a0 a3 h
set_option maxHeartbeats 4000000 in
set_option maxRecDepth 100000 in
theorem q_X7_begin_59 {hE : AH} {r41 : Nat → Int32 → AH → Option (AH)} (hr41 : ∀ (b0 : Nat) (b3 : Int32) (h : AH), r41 b0 b3 h = some hE → JD cX7_begin 4 RX7 "begin" none (11) 41 [(0, .inr (.inr (b0))), (3, .inl (b3))] [] h hE none) {a0 : Nat} {a3 : Int32} {h : AH} (hf : b_X7_begin_59 r41 a0 a3 h = some hE) : JD cX7_begin 4 RX7 "begin" none (11) 59 [(0, .inr (.inr (a0))), (3, .inl (a3))] [] h hE none := by
  unfold b_X7_begin_59 at hf
  obtain ⟨x1, e1, hf⟩ := bnd hf
  obtain ⟨x2, e2, hf⟩ := bnd hf
  obtain ⟨x3, e3, hf⟩ := bnd hf
  have mE : hp_n h ≤ hp_n hE ∧ hp_s h ≤ hp_s hE := by
    by_cases hc : x3 = (32 : Int32)
    · rw [if_pos hc] at hf; exact (q_X7_begin_87 hr41 hf).1
    · rw [if_neg hc] at hf; exact (q_X7_begin_73 hr41 hf).1
  refine ⟨by omega, fun X g K ok nmx lev hK en => ?_⟩
  refine tj_aload_n ok 0 dX7_begin_59 rfl rfl ?_
  refine tj_getR (k := 3) ok fcX7 (by decide) wm_118 rfl (Or.inr ⟨_, rfl⟩) dX7_begin_60 e1 ?_
  refine tj_aload_n ok 0 dX7_begin_63 rfl rfl ?_
  refine tj_getI (k := 5) ok fcX7 (by decide) wm_120 rfl (Or.inl rfl) dX7_begin_64 e2 ?_
  refine tj_iaload ok dX7_begin_67 e3 ?_
  refine tj_bipush (v := 32) ok dX7_begin_68 (by decide) ?_
  refine tj_icmp_eq (tgt := 87) ok dX7_begin_70 (by decide) (fun hc => ?_) (fun hc => ?_)
  · rw [if_pos hc] at hf
    exact (q_X7_begin_87 hr41 hf).2 X g K ok nmx lev hK en
  · rw [if_neg hc] at hf
    exact (q_X7_begin_73 hr41 hf).2 X g K ok nmx lev hK en
def b_X7_begin_48 (r41 : Nat → Int32 → AH → Option (AH)) (a0 : Nat) (a3 : Int32) (h : AH) : Option (AH) :=
  (g_i h a0 7 5).bind fun x1 => (g_i h a0 7 4).bind fun x2 => if x2 ≤ x1 then b_X7_begin_110 a0 h else b_X7_begin_59 r41 a0 a3 h
set_option maxHeartbeats 4000000 in
set_option maxRecDepth 100000 in
theorem q_X7_begin_48 {hE : AH} {r41 : Nat → Int32 → AH → Option (AH)} (hr41 : ∀ (b0 : Nat) (b3 : Int32) (h : AH), r41 b0 b3 h = some hE → JD cX7_begin 4 RX7 "begin" none (11) 41 [(0, .inr (.inr (b0))), (3, .inl (b3))] [] h hE none) {a0 : Nat} {a3 : Int32} {h : AH} (hf : b_X7_begin_48 r41 a0 a3 h = some hE) : JD cX7_begin 4 RX7 "begin" none (11) 48 [(0, .inr (.inr (a0))), (3, .inl (a3))] [] h hE none := by
  unfold b_X7_begin_48 at hf
  obtain ⟨x1, e1, hf⟩ := bnd hf
  obtain ⟨x2, e2, hf⟩ := bnd hf
  have mE : hp_n h ≤ hp_n hE ∧ hp_s h ≤ hp_s hE := by
    by_cases hc : x2 ≤ x1
    · rw [if_pos hc] at hf; exact (q_X7_begin_110 hf).1
    · rw [if_neg hc] at hf; exact (q_X7_begin_59 hr41 hf).1
  refine ⟨by omega, fun X g K ok nmx lev hK en => ?_⟩
  refine tj_aload_n ok 0 dX7_begin_48 rfl rfl ?_
  refine tj_getI (k := 5) ok fcX7 (by decide) wm_120 rfl (Or.inl rfl) dX7_begin_49 e1 ?_
  refine tj_aload_n ok 0 dX7_begin_52 rfl rfl ?_
  refine tj_getI (k := 4) ok fcX7 (by decide) wm_119 rfl (Or.inl rfl) dX7_begin_53 e2 ?_
  refine tj_icmp_ge (tgt := 110) ok dX7_begin_56 (by decide) (fun hc => ?_) (fun hc => ?_)
  · rw [if_pos hc] at hf
    refine tj_sub (lv' := [(0, .inr (.inr (a0)))]) [0] rfl ?_
    exact (q_X7_begin_110 hf).2 X g K ok nmx lev hK en
  · rw [if_neg hc] at hf
    exact (q_X7_begin_59 hr41 hf).2 X g K ok nmx lev hK en
def b_X7_begin_41 (r41 : Nat → Int32 → AH → Option (AH)) (a0 : Nat) (a3 : Int32) (h : AH) : Option (AH) :=
  if (1000 : Int32) ≤ a3 then b_X7_begin_110 a0 h else b_X7_begin_48 r41 a0 a3 h
set_option maxHeartbeats 4000000 in
set_option maxRecDepth 100000 in
theorem q_X7_begin_41 {hE : AH} {r41 : Nat → Int32 → AH → Option (AH)} (hr41 : ∀ (b0 : Nat) (b3 : Int32) (h : AH), r41 b0 b3 h = some hE → JD cX7_begin 4 RX7 "begin" none (11) 41 [(0, .inr (.inr (b0))), (3, .inl (b3))] [] h hE none) {a0 : Nat} {a3 : Int32} {h : AH} (hf : b_X7_begin_41 r41 a0 a3 h = some hE) : JD cX7_begin 4 RX7 "begin" none (11) 41 [(0, .inr (.inr (a0))), (3, .inl (a3))] [] h hE none := by
  unfold b_X7_begin_41 at hf
  have mE : hp_n h ≤ hp_n hE ∧ hp_s h ≤ hp_s hE := by
    by_cases hc : (1000 : Int32) ≤ a3
    · rw [if_pos hc] at hf; exact (q_X7_begin_110 hf).1
    · rw [if_neg hc] at hf; exact (q_X7_begin_48 hr41 hf).1
  refine ⟨by omega, fun X g K ok nmx lev hK en => ?_⟩
  refine tj_iload_n ok 1 dX7_begin_41 rfl rfl ?_
  refine tj_sipush (v := 1000) ok dX7_begin_42 (by decide) ?_
  refine tj_icmp_ge (tgt := 110) ok dX7_begin_45 (by decide) (fun hc => ?_) (fun hc => ?_)
  · rw [if_pos hc] at hf
    refine tj_sub (lv' := [(0, .inr (.inr (a0)))]) [0] rfl ?_
    exact (q_X7_begin_110 hf).2 X g K ok nmx lev hK en
  · rw [if_neg hc] at hf
    exact (q_X7_begin_48 hr41 hf).2 X g K ok nmx lev hK en
def l_X7_begin_41 : Nat → Nat → Int32 → AH → Option (AH)
  | 0 => fun _ _ _ => none
  | n + 1 => fun a0 a3 h => b_X7_begin_41 (l_X7_begin_41 n) a0 a3 h
theorem ql_X7_begin_41 {n : Nat} {a0 : Nat} {a3 : Int32} {h hE : AH} (hf : l_X7_begin_41 n a0 a3 h = some hE) : JD cX7_begin 4 RX7 "begin" none (11) 41 [(0, .inr (.inr (a0))), (3, .inl (a3))] [] h hE none := by
  induction n generalizing a0 a3 h with
  | zero => cases hf
  | succ n ih => exact q_X7_begin_41 (fun _ _ _ hf => ih hf) hf
def b_X7_begin_26 (a0 : Nat) (s0 : Nat) (s1 : Int32) (h : AH) : Option (AH) :=
  (p_i h s0 7 4 s1).bind fun h1 => (p_i h1 a0 7 5 (0 : Int32)).bind fun h2 => (p_i h2 a0 7 7 (0 : Int32)).bind fun h3 => l_X7_begin_41 fu_ a0 (0 : Int32) h3
set_option maxHeartbeats 4000000 in
set_option maxRecDepth 100000 in
theorem q_X7_begin_26 {a0 : Nat} {s0 : Nat} {s1 : Int32} {h hE : AH} (hf : b_X7_begin_26 a0 s0 s1 h = some hE) : JD cX7_begin 4 RX7 "begin" none (11) 26 [(0, .inr (.inr (a0)))] [.inl (s1), .inr (.inr (s0))] h hE none := by
  unfold b_X7_begin_26 at hf
  obtain ⟨h1, e1, hf⟩ := bnd hf
  have m1 := nn_pi e1
  obtain ⟨h2, e2, hf⟩ := bnd hf
  have m2 := nn_pi e2
  obtain ⟨h3, e3, hf⟩ := bnd hf
  have m3 := nn_pi e3
  have J := ql_X7_begin_41 hf
  have mE := J.1
  refine ⟨by omega, fun X g K ok nmx lev hK en => ?_⟩
  refine tj_putI (k := 4) ok fcX7 (by decide) wm_119 rfl (Or.inl rfl) rfl dX7_begin_26 e1 ?_
  refine tj_aload_n ok 0 dX7_begin_29 rfl rfl ?_
  refine tj_iconst (v := 0) ok dX7_begin_30 (by decide) ?_
  refine tj_putI (k := 5) ok fcX7 (by decide) wm_120 rfl (Or.inl rfl) rfl dX7_begin_31 e2 ?_
  refine tj_aload_n ok 0 dX7_begin_34 rfl rfl ?_
  refine tj_iconst (v := 0) ok dX7_begin_35 (by decide) ?_
  refine tj_putI (k := 7) ok fcX7 (by decide) wm_122 rfl (Or.inl rfl) rfl dX7_begin_36 e3 ?_
  refine tj_iconst (v := 0) ok dX7_begin_39 (by decide) ?_
  refine tj_istore_n (lv' := [(0, .inr (.inr (a0))), (3, .inl ((0 : Int32)))]) ok dX7_begin_40 rfl (by decide) rfl ?_
  exact J.2 X g K ok nmx lev hK en
def b_X7_begin_14 (a0 : Nat) (a1 : Nat) (a2 : Int32) (s0 : Nat) (h : AH) : Option (AH) :=
  (al_n h a1).bind fun x1 => b_X7_begin_26 a0 s0 (mn_i a2 (mn_i x1 (1000 : Int32))) h
set_option maxHeartbeats 4000000 in
set_option maxRecDepth 100000 in
theorem q_X7_begin_14 {a0 : Nat} {a1 : Nat} {a2 : Int32} {s0 : Nat} {h hE : AH} (hf : b_X7_begin_14 a0 a1 a2 s0 h = some hE) : JD cX7_begin 4 RX7 "begin" none (11) 14 [(0, .inr (.inr (a0))), (1, .inr (.inr (a1))), (2, .inl (a2))] [.inr (.inr (s0))] h hE none := by
  unfold b_X7_begin_14 at hf
  obtain ⟨x1, e1, hf⟩ := bnd hf
  have J := q_X7_begin_26 hf
  have mE := J.1
  refine ⟨by omega, fun X g K ok nmx lev hK en => ?_⟩
  refine tj_iload_n ok 2 dX7_begin_14 rfl rfl ?_
  refine tj_aload_n ok 1 dX7_begin_15 rfl rfl ?_
  refine tj_alen ok dX7_begin_16 e1 ?_
  refine tj_sipush (v := 1000) ok dX7_begin_17 (by decide) ?_
  refine tj_min (rest := ([.inl (a2), .inr (.inr (s0))] : List TV).map (vl g)) ok lev (by omega) (CaX.of en (by omega)) wm_989 wm_41 wm_42 wm_43 (rs_ok (Nat.le_of_ble_eq_true rfl)) dX7_begin_20 ?_
  refine tj_min (rest := ([.inr (.inr (s0))] : List TV).map (vl g)) ok lev (by omega) (CaX.of en (by omega)) wm_989 wm_41 wm_42 wm_43 (rs_ok (Nat.le_of_ble_eq_true rfl)) dX7_begin_23 ?_
  refine tj_sub (lv' := [(0, .inr (.inr (a0)))]) [0] rfl ?_
  exact J.2 X g K ok nmx lev hK en
def b_X7_begin_10 (a0 : Nat) (s0 : Nat) (h : AH) : Option (AH) :=
  b_X7_begin_26 a0 s0 (0 : Int32) h
set_option maxHeartbeats 4000000 in
set_option maxRecDepth 100000 in
theorem q_X7_begin_10 {a0 : Nat} {s0 : Nat} {h hE : AH} (hf : b_X7_begin_10 a0 s0 h = some hE) : JD cX7_begin 4 RX7 "begin" none (11) 10 [(0, .inr (.inr (a0)))] [.inr (.inr (s0))] h hE none := by
  unfold b_X7_begin_10 at hf
  have J := q_X7_begin_26 hf
  have mE := J.1
  refine ⟨by omega, fun X g K ok nmx lev hK en => ?_⟩
  refine tj_iconst (v := 0) ok dX7_begin_10 (by decide) ?_
  refine tj_goto (tgt := 26) ok dX7_begin_11 (by decide) ?_
  exact J.2 X g K ok nmx lev hK en
def b_X7_begin_0 (a0 : Nat) (a1 : Nat) (a2 : Int32) (h : AH) : Option (AH) :=
  (p_r h a0 7 3 a1).bind fun h1 => if a1 = 0 then b_X7_begin_10 a0 a0 h1 else b_X7_begin_14 a0 a1 a2 a0 h1
set_option maxHeartbeats 4000000 in
set_option maxRecDepth 100000 in
theorem q_X7_begin_0 {a0 : Nat} {a1 : Nat} {a2 : Int32} {h hE : AH} (hf : b_X7_begin_0 a0 a1 a2 h = some hE) : JD cX7_begin 4 RX7 "begin" none (11) 0 [(0, .inr (.inr (a0))), (1, .inr (.inr (a1))), (2, .inl (a2))] [] h hE none := by
  unfold b_X7_begin_0 at hf
  obtain ⟨h1, e1, hf⟩ := bnd hf
  have m1 := nn_pr e1
  have mE : hp_n h1 ≤ hp_n hE ∧ hp_s h1 ≤ hp_s hE := by
    by_cases hc : a1 = 0
    · rw [if_pos hc] at hf; exact (q_X7_begin_10 hf).1
    · rw [if_neg hc] at hf; exact (q_X7_begin_14 hf).1
  refine ⟨by omega, fun X g K ok nmx lev hK en => ?_⟩
  refine tj_aload_n ok 0 dX7_begin_0 rfl rfl ?_
  refine tj_aload_n ok 1 dX7_begin_1 rfl rfl ?_
  refine tj_putR (k := 3) ok fcX7 (by decide) wm_118 rfl (Or.inl rfl) (Or.inr ⟨_, rfl⟩) dX7_begin_2 e1 ?_
  refine tj_aload_n ok 0 dX7_begin_5 rfl rfl ?_
  refine tj_aload_n ok 1 dX7_begin_6 rfl rfl ?_
  refine tj_ifnonnull (tgt := 14) ok dX7_begin_7 (by decide) (fun hc => ?_) (fun hc => ?_)
  · rw [if_neg hc] at hf
    exact (q_X7_begin_14 hf).2 X g K ok nmx lev hK en
  · rw [if_pos hc] at hf
    refine tj_sub (lv' := [(0, .inr (.inr (a0)))]) [0] rfl ?_
    exact (q_X7_begin_10 hf).2 X g K ok nmx lev hK en
def f_X7_begin (a0 : Nat) (a1 : Nat) (a2 : Int32) (h : AH) : Option (AH) := b_X7_begin_0  a0 a1 a2 h
theorem c_X7_begin {a0 : Nat} {a1 : Nat} {a2 : Int32} {h hE : AH} (hf : f_X7_begin a0 a1 a2 h = some hE) : ∀ g : GT, CM g (11) yX7_begin cX7_begin 4 none h [.inr (.inr (a0)), .inr (.inr (a1)), .inl (a2)] hE none :=
  CM.ofJ (by decide) (by show _ ≤ 4; exact Nat.le_of_ble_eq_true rfl) (q_X7_begin_0 hf)
