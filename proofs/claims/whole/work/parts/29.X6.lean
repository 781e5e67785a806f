theorem dX6_init_0 : decode cX6_init 0 = .ok (.aload_n 0, 1) := by decide +kernel
theorem dX6_init_1 : decode cX6_init 1 = .ok (.invokespecial 3, 3) := by decide +kernel
theorem dX6_init_4 : decode cX6_init 4 = .ok (.aload_n 0, 1) := by decide +kernel
theorem dX6_init_5 : decode cX6_init 5 = .ok (.iconst 0, 1) := by decide +kernel
theorem dX6_init_6 : decode cX6_init 6 = .ok (.putfield 9, 3) := by decide +kernel
theorem dX6_init_9 : decode cX6_init 9 = .ok (.aload_n 0, 1) := by decide +kernel
theorem dX6_init_10 : decode cX6_init 10 = .ok (.iconst (-1), 1) := by decide +kernel
theorem dX6_init_11 : decode cX6_init 11 = .ok (.putfield 15, 3) := by decide +kernel
theorem dX6_init_14 : decode cX6_init 14 = .ok (.aload_n 0, 1) := by decide +kernel
theorem dX6_init_15 : decode cX6_init 15 = .ok (.new 18, 3) := by decide +kernel
theorem dX6_init_18 : decode cX6_init 18 = .ok (.dup, 1) := by decide +kernel
theorem dX6_init_19 : decode cX6_init 19 = .ok (.invokespecial 20, 3) := by decide +kernel
theorem dX6_init_22 : decode cX6_init 22 = .ok (.putfield 21, 3) := by decide +kernel
theorem dX6_init_25 : decode cX6_init 25 = .ok (.aload_n 0, 1) := by decide +kernel
theorem dX6_init_26 : decode cX6_init 26 = .ok (.bipush 8, 2) := by decide +kernel
theorem dX6_init_28 : decode cX6_init 28 = .ok (.newarray .int, 2) := by decide +kernel
theorem dX6_init_30 : decode cX6_init 30 = .ok (.putfield 25, 3) := by decide +kernel
theorem dX6_init_33 : decode cX6_init 33 = .ok (.aload_n 0, 1) := by decide +kernel
theorem dX6_init_34 : decode cX6_init 34 = .ok (.aconst_null, 1) := by decide +kernel
theorem dX6_init_35 : decode cX6_init 35 = .ok (.putfield 29, 3) := by decide +kernel
theorem dX6_init_38 : decode cX6_init 38 = .ok (.aload_n 0, 1) := by decide +kernel
theorem dX6_init_39 : decode cX6_init 39 = .ok (.aconst_null, 1) := by decide +kernel
theorem dX6_init_40 : decode cX6_init 40 = .ok (.putfield 33, 3) := by decide +kernel
theorem dX6_init_43 : decode cX6_init 43 = .ok (.aload_n 0, 1) := by decide +kernel
theorem dX6_init_44 : decode cX6_init 44 = .ok (.iconst 0, 1) := by decide +kernel
theorem dX6_init_45 : decode cX6_init 45 = .ok (.putfield 37, 3) := by decide +kernel
theorem dX6_init_48 : decode cX6_init 48 = .ok (.aload_n 0, 1) := by decide +kernel
theorem dX6_init_49 : decode cX6_init 49 = .ok (.iconst 0, 1) := by decide +kernel
theorem dX6_init_50 : decode cX6_init 50 = .ok (.putfield 40, 3) := by decide +kernel
theorem dX6_init_53 : decode cX6_init 53 = .ok (.aload_n 0, 1) := by decide +kernel
theorem dX6_init_54 : decode cX6_init 54 = .ok (.iconst 0, 1) := by decide +kernel
theorem dX6_init_55 : decode cX6_init 55 = .ok (.putfield 43, 3) := by decide +kernel
theorem dX6_init_58 : decode cX6_init 58 = .ok (.aload_n 0, 1) := by decide +kernel
theorem dX6_init_59 : decode cX6_init 59 = .ok (.iconst (-1), 1) := by decide +kernel
theorem dX6_init_60 : decode cX6_init 60 = .ok (.putfield 46, 3) := by decide +kernel
theorem dX6_init_63 : decode cX6_init 63 = .ok (.aload_n 0, 1) := by decide +kernel
theorem dX6_init_64 : decode cX6_init 64 = .ok (.iconst (-1), 1) := by decide +kernel
theorem dX6_init_65 : decode cX6_init 65 = .ok (.putfield 49, 3) := by decide +kernel
theorem dX6_init_68 : decode cX6_init 68 = .ok (.return_, 1) := by decide +kernel
theorem dX6_begin_0 : decode cX6_begin 0 = .ok (.aload_n 0, 1) := by decide +kernel
theorem dX6_begin_1 : decode cX6_begin 1 = .ok (.iconst 0, 1) := by decide +kernel
theorem dX6_begin_2 : decode cX6_begin 2 = .ok (.putfield 9, 3) := by decide +kernel
theorem dX6_begin_5 : decode cX6_begin 5 = .ok (.aload_n 0, 1) := by decide +kernel
theorem dX6_begin_6 : decode cX6_begin 6 = .ok (.iconst (-1), 1) := by decide +kernel
theorem dX6_begin_7 : decode cX6_begin 7 = .ok (.putfield 15, 3) := by decide +kernel
theorem dX6_begin_10 : decode cX6_begin 10 = .ok (.aload_n 0, 1) := by decide +kernel
theorem dX6_begin_11 : decode cX6_begin 11 = .ok (.new 71, 3) := by decide +kernel
theorem dX6_begin_14 : decode cX6_begin 14 = .ok (.dup, 1) := by decide +kernel
theorem dX6_begin_15 : decode cX6_begin 15 = .ok (.invokespecial 89, 3) := by decide +kernel
theorem dX6_begin_18 : decode cX6_begin 18 = .ok (.putfield 33, 3) := by decide +kernel
theorem dX6_begin_21 : decode cX6_begin 21 = .ok (.aload_n 0, 1) := by decide +kernel
theorem dX6_begin_22 : decode cX6_begin 22 = .ok (.new 90, 3) := by decide +kernel
theorem dX6_begin_25 : decode cX6_begin 25 = .ok (.dup, 1) := by decide +kernel
theorem dX6_begin_26 : decode cX6_begin 26 = .ok (.aload_n 0, 1) := by decide +kernel
theorem dX6_begin_27 : decode cX6_begin 27 = .ok (.getfield 33, 3) := by decide +kernel
theorem dX6_begin_30 : decode cX6_begin 30 = .ok (.invokespecial 92, 3) := by decide +kernel
theorem dX6_begin_33 : decode cX6_begin 33 = .ok (.putfield 29, 3) := by decide +kernel
theorem dX6_begin_36 : decode cX6_begin 36 = .ok (.aload_n 0, 1) := by decide +kernel
theorem dX6_begin_37 : decode cX6_begin 37 = .ok (.iconst 0, 1) := by decide +kernel
theorem dX6_begin_38 : decode cX6_begin 38 = .ok (.putfield 43, 3) := by decide +kernel
theorem dX6_begin_41 : decode cX6_begin 41 = .ok (.aload_n 0, 1) := by decide +kernel
theorem dX6_begin_42 : decode cX6_begin 42 = .ok (.getfield 25, 3) := by decide +kernel
theorem dX6_begin_45 : decode cX6_begin 45 = .ok (.iconst (-1), 1) := by decide +kernel
theorem dX6_begin_46 : decode cX6_begin 46 = .ok (.invokestatic 95, 3) := by decide +kernel
theorem dX6_begin_49 : decode cX6_begin 49 = .ok (.aload_n 0, 1) := by decide +kernel
theorem dX6_begin_50 : decode cX6_begin 50 = .ok (.getfield 21, 3) := by decide +kernel
theorem dX6_begin_53 : decode cX6_begin 53 = .ok (.aload_n 1, 1) := by decide +kernel
theorem dX6_begin_54 : decode cX6_begin 54 = .ok (.iload_n 2, 1) := by decide +kernel
theorem dX6_begin_55 : decode cX6_begin 55 = .ok (.invokevirtual 100, 3) := by decide +kernel
theorem dX6_begin_58 : decode cX6_begin 58 = .ok (.return_, 1) := by decide +kernel
theorem dX6_refuse_0 : decode cX6_refuse 0 = .ok (.aload_n 0, 1) := by decide +kernel
theorem dX6_refuse_1 : decode cX6_refuse 1 = .ok (.iload_n 1, 1) := by decide +kernel
theorem dX6_refuse_2 : decode cX6_refuse 2 = .ok (.putfield 9, 3) := by decide +kernel
theorem dX6_refuse_5 : decode cX6_refuse 5 = .ok (.aload_n 0, 1) := by decide +kernel
theorem dX6_refuse_6 : decode cX6_refuse 6 = .ok (.iload_n 2, 1) := by decide +kernel
theorem dX6_refuse_7 : decode cX6_refuse 7 = .ok (.putfield 15, 3) := by decide +kernel
theorem dX6_refuse_10 : decode cX6_refuse 10 = .ok (.iconst 0, 1) := by decide +kernel
theorem dX6_refuse_11 : decode cX6_refuse 11 = .ok (.ireturn, 1) := by decide +kernel
theorem dX6_checkCell_0 : decode cX6_checkCell 0 = .ok (.aload_n 0, 1) := by decide +kernel
theorem dX6_checkCell_1 : decode cX6_checkCell 1 = .ok (.getfield 29, 3) := by decide +kernel
theorem dX6_checkCell_4 : decode cX6_checkCell 4 = .ok (.getfield 114, 3) := by decide +kernel
theorem dX6_checkCell_7 : decode cX6_checkCell 7 = .ok (.aload_n 0, 1) := by decide +kernel
theorem dX6_checkCell_8 : decode cX6_checkCell 8 = .ok (.getfield 21, 3) := by decide +kernel
theorem dX6_checkCell_11 : decode cX6_checkCell 11 = .ok (.getfield 111, 3) := by decide +kernel
theorem dX6_checkCell_14 : decode cX6_checkCell 14 = .ok (.bipush 7, 2) := by decide +kernel
theorem dX6_checkCell_16 : decode cX6_checkCell 16 = .ok (.iand, 1) := by decide +kernel
theorem dX6_checkCell_17 : decode cX6_checkCell 17 = .ok (.iaload, 1) := by decide +kernel
theorem dX6_checkCell_18 : decode cX6_checkCell 18 = .ok (.iconst (-1), 1) := by decide +kernel
theorem dX6_checkCell_19 : decode cX6_checkCell 19 = .ok (.if_icmp .ne 18, 3) := by decide +kernel
theorem dX6_checkCell_22 : decode cX6_checkCell 22 = .ok (.aload_n 0, 1) := by decide +kernel
theorem dX6_checkCell_23 : decode cX6_checkCell 23 = .ok (.iconst 2, 1) := by decide +kernel
theorem dX6_checkCell_24 : decode cX6_checkCell 24 = .ok (.aload_n 0, 1) := by decide +kernel
theorem dX6_checkCell_25 : decode cX6_checkCell 25 = .ok (.getfield 21, 3) := by decide +kernel
theorem dX6_checkCell_28 : decode cX6_checkCell 28 = .ok (.getfield 82, 3) := by decide +kernel
theorem dX6_checkCell_31 : decode cX6_checkCell 31 = .ok (.invokevirtual 85, 3) := by decide +kernel
theorem dX6_checkCell_34 : decode cX6_checkCell 34 = .ok (.ifCond .eq 7, 3) := by decide +kernel
theorem dX6_checkCell_37 : decode cX6_checkCell 37 = .ok (.iconst 1, 1) := by decide +kernel
theorem dX6_checkCell_38 : decode cX6_checkCell 38 = .ok (.goto 4, 3) := by decide +kernel
theorem dX6_checkCell_41 : decode cX6_checkCell 41 = .ok (.iconst 0, 1) := by decide +kernel
theorem dX6_checkCell_42 : decode cX6_checkCell 42 = .ok (.ireturn, 1) := by decide +kernel
theorem dX6_checkLocal_0 : decode cX6_checkLocal 0 = .ok (.aload_n 0, 1) := by decide +kernel
theorem dX6_checkLocal_1 : decode cX6_checkLocal 1 = .ok (.getfield 21, 3) := by decide +kernel
theorem dX6_checkLocal_4 : decode cX6_checkLocal 4 = .ok (.getfield 111, 3) := by decide +kernel
theorem dX6_checkLocal_7 : decode cX6_checkLocal 7 = .ok (.bipush 7, 2) := by decide +kernel
theorem dX6_checkLocal_9 : decode cX6_checkLocal 9 = .ok (.iand, 1) := by decide +kernel
theorem dX6_checkLocal_10 : decode cX6_checkLocal 10 = .ok (.istore_n 1, 1) := by decide +kernel
theorem dX6_checkLocal_11 : decode cX6_checkLocal 11 = .ok (.aload_n 0, 1) := by decide +kernel
theorem dX6_checkLocal_12 : decode cX6_checkLocal 12 = .ok (.getfield 25, 3) := by decide +kernel
theorem dX6_checkLocal_15 : decode cX6_checkLocal 15 = .ok (.iload_n 1, 1) := by decide +kernel
theorem dX6_checkLocal_16 : decode cX6_checkLocal 16 = .ok (.iaload, 1) := by decide +kernel
theorem dX6_checkLocal_17 : decode cX6_checkLocal 17 = .ok (.iconst (-1), 1) := by decide +kernel
theorem dX6_checkLocal_18 : decode cX6_checkLocal 18 = .ok (.if_icmp .ne 28, 3) := by decide +kernel
theorem dX6_checkLocal_21 : decode cX6_checkLocal 21 = .ok (.aload_n 0, 1) := by decide +kernel
theorem dX6_checkLocal_22 : decode cX6_checkLocal 22 = .ok (.getfield 25, 3) := by decide +kernel
theorem dX6_checkLocal_25 : decode cX6_checkLocal 25 = .ok (.iload_n 1, 1) := by decide +kernel
theorem dX6_checkLocal_26 : decode cX6_checkLocal 26 = .ok (.aload_n 0, 1) := by decide +kernel
theorem dX6_checkLocal_27 : decode cX6_checkLocal 27 = .ok (.getfield 37, 3) := by decide +kernel
theorem dX6_checkLocal_30 : decode cX6_checkLocal 30 = .ok (.iastore, 1) := by decide +kernel
theorem dX6_checkLocal_31 : decode cX6_checkLocal 31 = .ok (.aload_n 0, 1) := by decide +kernel
theorem dX6_checkLocal_32 : decode cX6_checkLocal 32 = .ok (.getfield 33, 3) := by decide +kernel
theorem dX6_checkLocal_35 : decode cX6_checkLocal 35 = .ok (.dup, 1) := by decide +kernel
theorem dX6_checkLocal_36 : decode cX6_checkLocal 36 = .ok (.getfield 154, 3) := by decide +kernel
theorem dX6_checkLocal_39 : decode cX6_checkLocal 39 = .ok (.iconst 1, 1) := by decide +kernel
theorem dX6_checkLocal_40 : decode cX6_checkLocal 40 = .ok (.iload_n 1, 1) := by decide +kernel
theorem dX6_checkLocal_41 : decode cX6_checkLocal 41 = .ok (.ishl, 1) := by decide +kernel
theorem dX6_checkLocal_42 : decode cX6_checkLocal 42 = .ok (.ior, 1) := by decide +kernel
theorem dX6_checkLocal_43 : decode cX6_checkLocal 43 = .ok (.putfield 154, 3) := by decide +kernel
theorem dX6_checkLocal_46 : decode cX6_checkLocal 46 = .ok (.aload_n 0, 1) := by decide +kernel
theorem dX6_checkLocal_47 : decode cX6_checkLocal 47 = .ok (.getfield 25, 3) := by decide +kernel
theorem dX6_checkLocal_50 : decode cX6_checkLocal 50 = .ok (.iload_n 1, 1) := by decide +kernel
theorem dX6_checkLocal_51 : decode cX6_checkLocal 51 = .ok (.iaload, 1) := by decide +kernel
theorem dX6_checkLocal_52 : decode cX6_checkLocal 52 = .ok (.aload_n 0, 1) := by decide +kernel
theorem dX6_checkLocal_53 : decode cX6_checkLocal 53 = .ok (.getfield 37, 3) := by decide +kernel
theorem dX6_checkLocal_56 : decode cX6_checkLocal 56 = .ok (.if_icmp .eq 18, 3) := by decide +kernel
theorem dX6_checkLocal_59 : decode cX6_checkLocal 59 = .ok (.aload_n 0, 1) := by decide +kernel
theorem dX6_checkLocal_60 : decode cX6_checkLocal 60 = .ok (.iconst 3, 1) := by decide +kernel
theorem dX6_checkLocal_61 : decode cX6_checkLocal 61 = .ok (.aload_n 0, 1) := by decide +kernel
theorem dX6_checkLocal_62 : decode cX6_checkLocal 62 = .ok (.getfield 21, 3) := by decide +kernel
theorem dX6_checkLocal_65 : decode cX6_checkLocal 65 = .ok (.getfield 82, 3) := by decide +kernel
theorem dX6_checkLocal_68 : decode cX6_checkLocal 68 = .ok (.invokevirtual 85, 3) := by decide +kernel
theorem dX6_checkLocal_71 : decode cX6_checkLocal 71 = .ok (.ifCond .eq 7, 3) := by decide +kernel
theorem dX6_checkLocal_74 : decode cX6_checkLocal 74 = .ok (.iconst 1, 1) := by decide +kernel
theorem dX6_checkLocal_75 : decode cX6_checkLocal 75 = .ok (.goto 4, 3) := by decide +kernel
theorem dX6_checkLocal_78 : decode cX6_checkLocal 78 = .ok (.iconst 0, 1) := by decide +kernel
theorem dX6_checkLocal_79 : decode cX6_checkLocal 79 = .ok (.ireturn, 1) := by decide +kernel
theorem dX6_checkMaker_0 : decode cX6_checkMaker 0 = .ok (.aload_n 0, 1) := by decide +kernel
theorem dX6_checkMaker_1 : decode cX6_checkMaker 1 = .ok (.getfield 33, 3) := by decide +kernel
theorem dX6_checkMaker_4 : decode cX6_checkMaker 4 = .ok (.getfield 157, 3) := by decide +kernel
theorem dX6_checkMaker_7 : decode cX6_checkMaker 7 = .ok (.iconst (-1), 1) := by decide +kernel
theorem dX6_checkMaker_8 : decode cX6_checkMaker 8 = .ok (.if_icmp .ne 14, 3) := by decide +kernel
theorem dX6_checkMaker_11 : decode cX6_checkMaker 11 = .ok (.aload_n 0, 1) := by decide +kernel
theorem dX6_checkMaker_12 : decode cX6_checkMaker 12 = .ok (.getfield 33, 3) := by decide +kernel
theorem dX6_checkMaker_15 : decode cX6_checkMaker 15 = .ok (.aload_n 0, 1) := by decide +kernel
theorem dX6_checkMaker_16 : decode cX6_checkMaker 16 = .ok (.getfield 37, 3) := by decide +kernel
theorem dX6_checkMaker_19 : decode cX6_checkMaker 19 = .ok (.putfield 157, 3) := by decide +kernel
theorem dX6_checkMaker_22 : decode cX6_checkMaker 22 = .ok (.aload_n 0, 1) := by decide +kernel
theorem dX6_checkMaker_23 : decode cX6_checkMaker 23 = .ok (.getfield 33, 3) := by decide +kernel
theorem dX6_checkMaker_26 : decode cX6_checkMaker 26 = .ok (.getfield 157, 3) := by decide +kernel
theorem dX6_checkMaker_29 : decode cX6_checkMaker 29 = .ok (.aload_n 0, 1) := by decide +kernel
theorem dX6_checkMaker_30 : decode cX6_checkMaker 30 = .ok (.getfield 37, 3) := by decide +kernel
theorem dX6_checkMaker_33 : decode cX6_checkMaker 33 = .ok (.if_icmp .ne 25, 3) := by decide +kernel
theorem dX6_checkMaker_36 : decode cX6_checkMaker 36 = .ok (.aload_n 0, 1) := by decide +kernel
theorem dX6_checkMaker_37 : decode cX6_checkMaker 37 = .ok (.getfield 43, 3) := by decide +kernel
theorem dX6_checkMaker_40 : decode cX6_checkMaker 40 = .ok (.ifCond .ne 18, 3) := by decide +kernel
theorem dX6_checkMaker_43 : decode cX6_checkMaker 43 = .ok (.aload_n 0, 1) := by decide +kernel
theorem dX6_checkMaker_44 : decode cX6_checkMaker 44 = .ok (.getfield 33, 3) := by decide +kernel
theorem dX6_checkMaker_47 : decode cX6_checkMaker 47 = .ok (.getfield 160, 3) := by decide +kernel
theorem dX6_checkMaker_50 : decode cX6_checkMaker 50 = .ok (.iconst (-1), 1) := by decide +kernel
theorem dX6_checkMaker_51 : decode cX6_checkMaker 51 = .ok (.if_icmp .ne 7, 3) := by decide +kernel
theorem dX6_checkMaker_54 : decode cX6_checkMaker 54 = .ok (.iconst 1, 1) := by decide +kernel
theorem dX6_checkMaker_55 : decode cX6_checkMaker 55 = .ok (.goto 4, 3) := by decide +kernel
theorem dX6_checkMaker_58 : decode cX6_checkMaker 58 = .ok (.iconst 0, 1) := by decide +kernel
theorem dX6_checkMaker_59 : decode cX6_checkMaker 59 = .ok (.istore_n 1, 1) := by decide +kernel
theorem dX6_checkMaker_60 : decode cX6_checkMaker 60 = .ok (.iload_n 1, 1) := by decide +kernel
theorem dX6_checkMaker_61 : decode cX6_checkMaker 61 = .ok (.ifCond .ne 19, 3) := by decide +kernel
theorem dX6_checkMaker_64 : decode cX6_checkMaker 64 = .ok (.aload_n 0, 1) := by decide +kernel
theorem dX6_checkMaker_65 : decode cX6_checkMaker 65 = .ok (.bipush 6, 2) := by decide +kernel
theorem dX6_checkMaker_67 : decode cX6_checkMaker 67 = .ok (.aload_n 0, 1) := by decide +kernel
theorem dX6_checkMaker_68 : decode cX6_checkMaker 68 = .ok (.getfield 21, 3) := by decide +kernel
theorem dX6_checkMaker_71 : decode cX6_checkMaker 71 = .ok (.getfield 82, 3) := by decide +kernel
theorem dX6_checkMaker_74 : decode cX6_checkMaker 74 = .ok (.invokevirtual 85, 3) := by decide +kernel
theorem dX6_checkMaker_77 : decode cX6_checkMaker 77 = .ok (.ifCond .eq 7, 3) := by decide +kernel
theorem dX6_checkMaker_80 : decode cX6_checkMaker 80 = .ok (.iconst 1, 1) := by decide +kernel
theorem dX6_checkMaker_81 : decode cX6_checkMaker 81 = .ok (.goto 4, 3) := by decide +kernel
theorem dX6_checkMaker_84 : decode cX6_checkMaker 84 = .ok (.iconst 0, 1) := by decide +kernel
theorem dX6_checkMaker_85 : decode cX6_checkMaker 85 = .ok (.ireturn, 1) := by decide +kernel
theorem dX6_countStatement_0 : decode cX6_countStatement 0 = .ok (.aload_n 0, 1) := by decide +kernel
theorem dX6_countStatement_1 : decode cX6_countStatement 1 = .ok (.getfield 33, 3) := by decide +kernel
theorem dX6_countStatement_4 : decode cX6_countStatement 4 = .ok (.getfield 148, 3) := by decide +kernel
theorem dX6_countStatement_7 : decode cX6_countStatement 7 = .ok (.bipush 20, 2) := by decide +kernel
theorem dX6_countStatement_9 : decode cX6_countStatement 9 = .ok (.if_icmp .lt 16, 3) := by decide +kernel
theorem dX6_countStatement_12 : decode cX6_countStatement 12 = .ok (.aload_n 0, 1) := by decide +kernel
theorem dX6_countStatement_13 : decode cX6_countStatement 13 = .ok (.iconst 4, 1) := by decide +kernel
theorem dX6_countStatement_14 : decode cX6_countStatement 14 = .ok (.aload_n 0, 1) := by decide +kernel
theorem dX6_countStatement_15 : decode cX6_countStatement 15 = .ok (.getfield 21, 3) := by decide +kernel
theorem dX6_countStatement_18 : decode cX6_countStatement 18 = .ok (.getfield 82, 3) := by decide +kernel
theorem dX6_countStatement_21 : decode cX6_countStatement 21 = .ok (.invokevirtual 85, 3) := by decide +kernel
theorem dX6_countStatement_24 : decode cX6_countStatement 24 = .ok (.ireturn, 1) := by decide +kernel
theorem dX6_countStatement_25 : decode cX6_countStatement 25 = .ok (.aload_n 0, 1) := by decide +kernel
theorem dX6_countStatement_26 : decode cX6_countStatement 26 = .ok (.getfield 33, 3) := by decide +kernel
theorem dX6_countStatement_29 : decode cX6_countStatement 29 = .ok (.dup, 1) := by decide +kernel
theorem dX6_countStatement_30 : decode cX6_countStatement 30 = .ok (.getfield 148, 3) := by decide +kernel
theorem dX6_countStatement_33 : decode cX6_countStatement 33 = .ok (.iconst 1, 1) := by decide +kernel
theorem dX6_countStatement_34 : decode cX6_countStatement 34 = .ok (.iadd, 1) := by decide +kernel
theorem dX6_countStatement_35 : decode cX6_countStatement 35 = .ok (.putfield 148, 3) := by decide +kernel
theorem dX6_countStatement_38 : decode cX6_countStatement 38 = .ok (.iconst 1, 1) := by decide +kernel
theorem dX6_countStatement_39 : decode cX6_countStatement 39 = .ok (.ireturn, 1) := by decide +kernel
theorem dX6_kindOfWord_0 : decode cX6_kindOfWord 0 = .ok (.iload_n 0, 1) := by decide +kernel
theorem dX6_kindOfWord_1 : decode cX6_kindOfWord 1 = .ok (.tableswitch 33 2 4 #[27, 29, 31], 27) := by decide +kernel
theorem dX6_kindOfWord_28 : decode cX6_kindOfWord 28 = .ok (.iconst 0, 1) := by decide +kernel
theorem dX6_kindOfWord_29 : decode cX6_kindOfWord 29 = .ok (.ireturn, 1) := by decide +kernel
theorem dX6_kindOfWord_30 : decode cX6_kindOfWord 30 = .ok (.iconst 1, 1) := by decide +kernel
theorem dX6_kindOfWord_31 : decode cX6_kindOfWord 31 = .ok (.ireturn, 1) := by decide +kernel
theorem dX6_kindOfWord_32 : decode cX6_kindOfWord 32 = .ok (.iconst 2, 1) := by decide +kernel
theorem dX6_kindOfWord_33 : decode cX6_kindOfWord 33 = .ok (.ireturn, 1) := by decide +kernel
theorem dX6_kindOfWord_34 : decode cX6_kindOfWord 34 = .ok (.iconst (-1), 1) := by decide +kernel
theorem dX6_kindOfWord_35 : decode cX6_kindOfWord 35 = .ok (.ireturn, 1) := by decide +kernel
theorem dX6_mayAct_0 : decode cX6_mayAct 0 = .ok (.aload_n 0, 1) := by decide +kernel
theorem dX6_mayAct_1 : decode cX6_mayAct 1 = .ok (.getfield 33, 3) := by decide +kernel
theorem dX6_mayAct_4 : decode cX6_mayAct 4 = .ok (.getfield 151, 3) := by decide +kernel
theorem dX6_mayAct_7 : decode cX6_mayAct 7 = .ok (.bipush 8, 2) := by decide +kernel
theorem dX6_mayAct_9 : decode cX6_mayAct 9 = .ok (.if_icmp .lt 18, 3) := by decide +kernel
theorem dX6_mayAct_12 : decode cX6_mayAct 12 = .ok (.aload_n 0, 1) := by decide +kernel
theorem dX6_mayAct_13 : decode cX6_mayAct 13 = .ok (.iconst 4, 1) := by decide +kernel
theorem dX6_mayAct_14 : decode cX6_mayAct 14 = .ok (.aload_n 0, 1) := by decide +kernel
theorem dX6_mayAct_15 : decode cX6_mayAct 15 = .ok (.getfield 21, 3) := by decide +kernel
theorem dX6_mayAct_18 : decode cX6_mayAct 18 = .ok (.getfield 82, 3) := by decide +kernel
theorem dX6_mayAct_21 : decode cX6_mayAct 21 = .ok (.invokevirtual 85, 3) := by decide +kernel
theorem dX6_mayAct_24 : decode cX6_mayAct 24 = .ok (.ifCond .eq 7, 3) := by decide +kernel
theorem dX6_mayAct_27 : decode cX6_mayAct 27 = .ok (.iconst 1, 1) := by decide +kernel
theorem dX6_mayAct_28 : decode cX6_mayAct 28 = .ok (.goto 4, 3) := by decide +kernel
theorem dX6_mayAct_31 : decode cX6_mayAct 31 = .ok (.iconst 0, 1) := by decide +kernel
theorem dX6_mayAct_32 : decode cX6_mayAct 32 = .ok (.ireturn, 1) := by decide +kernel
theorem dX6_openThread_0 : decode cX6_openThread 0 = .ok (.aload_n 0, 1) := by decide +kernel
theorem dX6_openThread_1 : decode cX6_openThread 1 = .ok (.getfield 33, 3) := by decide +kernel
theorem dX6_openThread_4 : decode cX6_openThread 4 = .ok (.getfield 79, 3) := by decide +kernel
theorem dX6_openThread_7 : decode cX6_openThread 7 = .ok (.iconst 4, 1) := by decide +kernel
theorem dX6_openThread_8 : decode cX6_openThread 8 = .ok (.if_icmp .lt 16, 3) := by decide +kernel
theorem dX6_openThread_11 : decode cX6_openThread 11 = .ok (.aload_n 0, 1) := by decide +kernel
theorem dX6_openThread_12 : decode cX6_openThread 12 = .ok (.iconst 4, 1) := by decide +kernel
theorem dX6_openThread_13 : decode cX6_openThread 13 = .ok (.aload_n 0, 1) := by decide +kernel
theorem dX6_openThread_14 : decode cX6_openThread 14 = .ok (.getfield 21, 3) := by decide +kernel
theorem dX6_openThread_17 : decode cX6_openThread 17 = .ok (.getfield 82, 3) := by decide +kernel
theorem dX6_openThread_20 : decode cX6_openThread 20 = .ok (.invokevirtual 85, 3) := by decide +kernel
theorem dX6_openThread_23 : decode cX6_openThread 23 = .ok (.ireturn, 1) := by decide +kernel
theorem dX6_openThread_24 : decode cX6_openThread 24 = .ok (.aload_n 0, 1) := by decide +kernel
theorem dX6_openThread_25 : decode cX6_openThread 25 = .ok (.aload_n 0, 1) := by decide +kernel
theorem dX6_openThread_26 : decode cX6_openThread 26 = .ok (.getfield 33, 3) := by decide +kernel
theorem dX6_openThread_29 : decode cX6_openThread 29 = .ok (.getfield 79, 3) := by decide +kernel
theorem dX6_openThread_32 : decode cX6_openThread 32 = .ok (.putfield 37, 3) := by decide +kernel
theorem dX6_openThread_35 : decode cX6_openThread 35 = .ok (.aload_n 0, 1) := by decide +kernel
theorem dX6_openThread_36 : decode cX6_openThread 36 = .ok (.getfield 33, 3) := by decide +kernel
theorem dX6_openThread_39 : decode cX6_openThread 39 = .ok (.getfield 124, 3) := by decide +kernel
theorem dX6_openThread_42 : decode cX6_openThread 42 = .ok (.aload_n 0, 1) := by decide +kernel
theorem dX6_openThread_43 : decode cX6_openThread 43 = .ok (.getfield 37, 3) := by decide +kernel
theorem dX6_openThread_46 : decode cX6_openThread 46 = .ok (.aload_n 0, 1) := by decide +kernel
theorem dX6_openThread_47 : decode cX6_openThread 47 = .ok (.getfield 33, 3) := by decide +kernel
theorem dX6_openThread_50 : decode cX6_openThread 50 = .ok (.getfield 127, 3) := by decide +kernel
theorem dX6_openThread_53 : decode cX6_openThread 53 = .ok (.iastore, 1) := by decide +kernel
theorem dX6_openThread_54 : decode cX6_openThread 54 = .ok (.aload_n 0, 1) := by decide +kernel
theorem dX6_openThread_55 : decode cX6_openThread 55 = .ok (.getfield 33, 3) := by decide +kernel
theorem dX6_openThread_58 : decode cX6_openThread 58 = .ok (.dup, 1) := by decide +kernel
theorem dX6_openThread_59 : decode cX6_openThread 59 = .ok (.getfield 79, 3) := by decide +kernel
theorem dX6_openThread_62 : decode cX6_openThread 62 = .ok (.iconst 1, 1) := by decide +kernel
theorem dX6_openThread_63 : decode cX6_openThread 63 = .ok (.iadd, 1) := by decide +kernel
theorem dX6_openThread_64 : decode cX6_openThread 64 = .ok (.putfield 79, 3) := by decide +kernel
theorem dX6_openThread_67 : decode cX6_openThread 67 = .ok (.aload_n 0, 1) := by decide +kernel
theorem dX6_openThread_68 : decode cX6_openThread 68 = .ok (.iconst 0, 1) := by decide +kernel
theorem dX6_openThread_69 : decode cX6_openThread 69 = .ok (.putfield 40, 3) := by decide +kernel
theorem dX6_openThread_72 : decode cX6_openThread 72 = .ok (.aload_n 0, 1) := by decide +kernel
theorem dX6_openThread_73 : decode cX6_openThread 73 = .ok (.getfield 21, 3) := by decide +kernel
theorem dX6_openThread_76 : decode cX6_openThread 76 = .ok (.invokevirtual 101, 3) := by decide +kernel
theorem dX6_openThread_79 : decode cX6_openThread 79 = .ok (.iconst 1, 1) := by decide +kernel
theorem dX6_openThread_80 : decode cX6_openThread 80 = .ok (.ireturn, 1) := by decide +kernel
theorem dX6_pass_0 : decode cX6_pass 0 = .ok (.aload_n 0, 1) := by decide +kernel
theorem dX6_pass_1 : decode cX6_pass 1 = .ok (.getfield 21, 3) := by decide +kernel
theorem dX6_pass_4 : decode cX6_pass 4 = .ok (.getfield 60, 3) := by decide +kernel
theorem dX6_pass_7 : decode cX6_pass 7 = .ok (.iload_n 1, 1) := by decide +kernel
theorem dX6_pass_8 : decode cX6_pass 8 = .ok (.if_icmp .eq 16, 3) := by decide +kernel
theorem dX6_pass_11 : decode cX6_pass 11 = .ok (.aload_n 0, 1) := by decide +kernel
theorem dX6_pass_12 : decode cX6_pass 12 = .ok (.iconst 1, 1) := by decide +kernel
theorem dX6_pass_13 : decode cX6_pass 13 = .ok (.aload_n 0, 1) := by decide +kernel
theorem dX6_pass_14 : decode cX6_pass 14 = .ok (.getfield 21, 3) := by decide +kernel
theorem dX6_pass_17 : decode cX6_pass 17 = .ok (.getfield 82, 3) := by decide +kernel
theorem dX6_pass_20 : decode cX6_pass 20 = .ok (.invokevirtual 85, 3) := by decide +kernel
theorem dX6_pass_23 : decode cX6_pass 23 = .ok (.ireturn, 1) := by decide +kernel
theorem dX6_pass_24 : decode cX6_pass 24 = .ok (.aload_n 0, 1) := by decide +kernel
theorem dX6_pass_25 : decode cX6_pass 25 = .ok (.getfield 21, 3) := by decide +kernel
theorem dX6_pass_28 : decode cX6_pass 28 = .ok (.invokevirtual 101, 3) := by decide +kernel
theorem dX6_pass_31 : decode cX6_pass 31 = .ok (.iconst 1, 1) := by decide +kernel
theorem dX6_pass_32 : decode cX6_pass 32 = .ok (.ireturn, 1) := by decide +kernel
theorem dX6_readDone_0 : decode cX6_readDone 0 = .ok (.aload_n 0, 1) := by decide +kernel
theorem dX6_readDone_1 : decode cX6_readDone 1 = .ok (.invokevirtual 166, 3) := by decide +kernel
theorem dX6_readDone_4 : decode cX6_readDone 4 = .ok (.ifCond .eq 17, 3) := by decide +kernel
theorem dX6_readDone_7 : decode cX6_readDone 7 = .ok (.aload_n 0, 1) := by decide +kernel
theorem dX6_readDone_8 : decode cX6_readDone 8 = .ok (.invokevirtual 182, 3) := by decide +kernel
theorem dX6_readDone_11 : decode cX6_readDone 11 = .ok (.ifCond .eq 10, 3) := by decide +kernel
theorem dX6_readDone_14 : decode cX6_readDone 14 = .ok (.aload_n 0, 1) := by decide +kernel
theorem dX6_readDone_15 : decode cX6_readDone 15 = .ok (.invokevirtual 189, 3) := by decide +kernel
theorem dX6_readDone_18 : decode cX6_readDone 18 = .ok (.ifCond .ne 5, 3) := by decide +kernel
theorem dX6_readDone_21 : decode cX6_readDone 21 = .ok (.iconst 0, 1) := by decide +kernel
theorem dX6_readDone_22 : decode cX6_readDone 22 = .ok (.ireturn, 1) := by decide +kernel
theorem dX6_readDone_23 : decode cX6_readDone 23 = .ok (.aload_n 0, 1) := by decide +kernel
theorem dX6_readDone_24 : decode cX6_readDone 24 = .ok (.getfield 33, 3) := by decide +kernel
theorem dX6_readDone_27 : decode cX6_readDone 27 = .ok (.aload_n 0, 1) := by decide +kernel
theorem dX6_readDone_28 : decode cX6_readDone 28 = .ok (.getfield 33, 3) := by decide +kernel
theorem dX6_readDone_31 : decode cX6_readDone 31 = .ok (.getfield 151, 3) := by decide +kernel
theorem dX6_readDone_34 : decode cX6_readDone 34 = .ok (.putfield 160, 3) := by decide +kernel
theorem dX6_readDone_37 : decode cX6_readDone 37 = .ok (.aload_n 0, 1) := by decide +kernel
theorem dX6_readDone_38 : decode cX6_readDone 38 = .ok (.getfield 33, 3) := by decide +kernel
theorem dX6_readDone_41 : decode cX6_readDone 41 = .ok (.aload_n 0, 1) := by decide +kernel
theorem dX6_readDone_42 : decode cX6_readDone 42 = .ok (.getfield 37, 3) := by decide +kernel
theorem dX6_readDone_45 : decode cX6_readDone 45 = .ok (.iconst 5, 1) := by decide +kernel
theorem dX6_readDone_46 : decode cX6_readDone 46 = .ok (.iconst (-1), 1) := by decide +kernel
theorem dX6_readDone_47 : decode cX6_readDone 47 = .ok (.iconst (-1), 1) := by decide +kernel
theorem dX6_readDone_48 : decode cX6_readDone 48 = .ok (.iconst (-1), 1) := by decide +kernel
theorem dX6_readDone_49 : decode cX6_readDone 49 = .ok (.iconst (-1), 1) := by decide +kernel
theorem dX6_readDone_50 : decode cX6_readDone 50 = .ok (.invokevirtual 185, 3) := by decide +kernel
theorem dX6_readDone_53 : decode cX6_readDone 53 = .ok (.aload_n 0, 1) := by decide +kernel
theorem dX6_readDone_54 : decode cX6_readDone 54 = .ok (.getfield 21, 3) := by decide +kernel
theorem dX6_readDone_57 : decode cX6_readDone 57 = .ok (.invokevirtual 101, 3) := by decide +kernel
theorem dX6_readDone_60 : decode cX6_readDone 60 = .ok (.aload_n 0, 1) := by decide +kernel
theorem dX6_readDone_61 : decode cX6_readDone 61 = .ok (.bipush 15, 2) := by decide +kernel
theorem dX6_readDone_63 : decode cX6_readDone 63 = .ok (.invokevirtual 121, 3) := by decide +kernel
theorem dX6_readDone_66 : decode cX6_readDone 66 = .ok (.ireturn, 1) := by decide +kernel
theorem dX6_readBranches_0 : decode cX6_readBranches 0 = .ok (.aload_n 0, 1) := by decide +kernel
theorem dX6_readBranches_1 : decode cX6_readBranches 1 = .ok (.getfield 40, 3) := by decide +kernel
theorem dX6_readBranches_4 : decode cX6_readBranches 4 = .ok (.istore_n 2, 1) := by decide +kernel
theorem dX6_readBranches_5 : decode cX6_readBranches 5 = .ok (.aload_n 0, 1) := by decide +kernel
theorem dX6_readBranches_6 : decode cX6_readBranches 6 = .ok (.iload_n 2, 1) := by decide +kernel
theorem dX6_readBranches_7 : decode cX6_readBranches 7 = .ok (.invokevirtual 66, 3) := by decide +kernel
theorem dX6_readBranches_10 : decode cX6_readBranches 10 = .ok (.ifCond .ne 5, 3) := by decide +kernel
theorem dX6_readBranches_13 : decode cX6_readBranches 13 = .ok (.iconst 0, 1) := by decide +kernel
theorem dX6_readBranches_14 : decode cX6_readBranches 14 = .ok (.ireturn, 1) := by decide +kernel
theorem dX6_readBranches_15 : decode cX6_readBranches 15 = .ok (.iconst (-1), 1) := by decide +kernel
theorem dX6_readBranches_16 : decode cX6_readBranches 16 = .ok (.istore_n 3, 1) := by decide +kernel
theorem dX6_readBranches_17 : decode cX6_readBranches 17 = .ok (.aload_n 0, 1) := by decide +kernel
theorem dX6_readBranches_18 : decode cX6_readBranches 18 = .ok (.getfield 21, 3) := by decide +kernel
theorem dX6_readBranches_21 : decode cX6_readBranches 21 = .ok (.getfield 60, 3) := by decide +kernel
theorem dX6_readBranches_24 : decode cX6_readBranches 24 = .ok (.bipush 10, 2) := by decide +kernel
theorem dX6_readBranches_26 : decode cX6_readBranches 26 = .ok (.if_icmp .ne 34, 3) := by decide +kernel
theorem dX6_readBranches_29 : decode cX6_readBranches 29 = .ok (.aload_n 0, 1) := by decide +kernel
theorem dX6_readBranches_30 : decode cX6_readBranches 30 = .ok (.getfield 21, 3) := by decide +kernel
theorem dX6_readBranches_33 : decode cX6_readBranches 33 = .ok (.invokevirtual 101, 3) := by decide +kernel
theorem dX6_readBranches_36 : decode cX6_readBranches 36 = .ok (.aload_n 0, 1) := by decide +kernel
theorem dX6_readBranches_37 : decode cX6_readBranches 37 = .ok (.getfield 33, 3) := by decide +kernel
theorem dX6_readBranches_40 : decode cX6_readBranches 40 = .ok (.bipush 8, 2) := by decide +kernel
theorem dX6_readBranches_42 : decode cX6_readBranches 42 = .ok (.iconst (-1), 1) := by decide +kernel
theorem dX6_readBranches_43 : decode cX6_readBranches 43 = .ok (.iconst (-1), 1) := by decide +kernel
theorem dX6_readBranches_44 : decode cX6_readBranches 44 = .ok (.iconst (-1), 1) := by decide +kernel
theorem dX6_readBranches_45 : decode cX6_readBranches 45 = .ok (.iconst (-1), 1) := by decide +kernel
theorem dX6_readBranches_46 : decode cX6_readBranches 46 = .ok (.invokevirtual 70, 3) := by decide +kernel
theorem dX6_readBranches_49 : decode cX6_readBranches 49 = .ok (.istore_n 3, 1) := by decide +kernel
theorem dX6_readBranches_50 : decode cX6_readBranches 50 = .ok (.aload_n 0, 1) := by decide +kernel
theorem dX6_readBranches_51 : decode cX6_readBranches 51 = .ok (.iload_n 2, 1) := by decide +kernel
theorem dX6_readBranches_52 : decode cX6_readBranches 52 = .ok (.invokevirtual 66, 3) := by decide +kernel
theorem dX6_readBranches_55 : decode cX6_readBranches 55 = .ok (.ifCond .ne 5, 3) := by decide +kernel
theorem dX6_readBranches_58 : decode cX6_readBranches 58 = .ok (.iconst 0, 1) := by decide +kernel
theorem dX6_readBranches_59 : decode cX6_readBranches 59 = .ok (.ireturn, 1) := by decide +kernel
theorem dX6_readBranches_60 : decode cX6_readBranches 60 = .ok (.aload_n 0, 1) := by decide +kernel
theorem dX6_readBranches_61 : decode cX6_readBranches 61 = .ok (.getfield 33, 3) := by decide +kernel
theorem dX6_readBranches_64 : decode cX6_readBranches 64 = .ok (.bipush 9, 2) := by decide +kernel
theorem dX6_readBranches_66 : decode cX6_readBranches 66 = .ok (.iconst (-1), 1) := by decide +kernel
theorem dX6_readBranches_67 : decode cX6_readBranches 67 = .ok (.iconst (-1), 1) := by decide +kernel
theorem dX6_readBranches_68 : decode cX6_readBranches 68 = .ok (.iconst (-1), 1) := by decide +kernel
theorem dX6_readBranches_69 : decode cX6_readBranches 69 = .ok (.iconst (-1), 1) := by decide +kernel
theorem dX6_readBranches_70 : decode cX6_readBranches 70 = .ok (.invokevirtual 70, 3) := by decide +kernel
theorem dX6_readBranches_73 : decode cX6_readBranches 73 = .ok (.istore 4, 2) := by decide +kernel
theorem dX6_readBranches_75 : decode cX6_readBranches 75 = .ok (.aload_n 0, 1) := by decide +kernel
theorem dX6_readBranches_76 : decode cX6_readBranches 76 = .ok (.getfield 33, 3) := by decide +kernel
theorem dX6_readBranches_79 : decode cX6_readBranches 79 = .ok (.getfield 198, 3) := by decide +kernel
theorem dX6_readBranches_82 : decode cX6_readBranches 82 = .ok (.iload_n 1, 1) := by decide +kernel
theorem dX6_readBranches_83 : decode cX6_readBranches 83 = .ok (.bipush 63, 2) := by decide +kernel
theorem dX6_readBranches_85 : decode cX6_readBranches 85 = .ok (.iand, 1) := by decide +kernel
theorem dX6_readBranches_86 : decode cX6_readBranches 86 = .ok (.iload_n 3, 1) := by decide +kernel
theorem dX6_readBranches_87 : decode cX6_readBranches 87 = .ok (.iconst (-1), 1) := by decide +kernel
theorem dX6_readBranches_88 : decode cX6_readBranches 88 = .ok (.if_icmp .ne 8, 3) := by decide +kernel
theorem dX6_readBranches_91 : decode cX6_readBranches 91 = .ok (.iload 4, 2) := by decide +kernel
theorem dX6_readBranches_93 : decode cX6_readBranches 93 = .ok (.goto 6, 3) := by decide +kernel
theorem dX6_readBranches_96 : decode cX6_readBranches 96 = .ok (.iload_n 3, 1) := by decide +kernel
theorem dX6_readBranches_97 : decode cX6_readBranches 97 = .ok (.iconst 1, 1) := by decide +kernel
theorem dX6_readBranches_98 : decode cX6_readBranches 98 = .ok (.iadd, 1) := by decide +kernel
theorem dX6_readBranches_99 : decode cX6_readBranches 99 = .ok (.iastore, 1) := by decide +kernel
theorem dX6_readBranches_100 : decode cX6_readBranches 100 = .ok (.iload_n 3, 1) := by decide +kernel
theorem dX6_readBranches_101 : decode cX6_readBranches 101 = .ok (.iconst (-1), 1) := by decide +kernel
theorem dX6_readBranches_102 : decode cX6_readBranches 102 = .ok (.if_icmp .eq 17, 3) := by decide +kernel
theorem dX6_readBranches_105 : decode cX6_readBranches 105 = .ok (.aload_n 0, 1) := by decide +kernel
theorem dX6_readBranches_106 : decode cX6_readBranches 106 = .ok (.getfield 33, 3) := by decide +kernel
theorem dX6_readBranches_109 : decode cX6_readBranches 109 = .ok (.getfield 198, 3) := by decide +kernel
theorem dX6_readBranches_112 : decode cX6_readBranches 112 = .ok (.iload_n 3, 1) := by decide +kernel
theorem dX6_readBranches_113 : decode cX6_readBranches 113 = .ok (.bipush 63, 2) := by decide +kernel
theorem dX6_readBranches_115 : decode cX6_readBranches 115 = .ok (.iand, 1) := by decide +kernel
theorem dX6_readBranches_116 : decode cX6_readBranches 116 = .ok (.iload 4, 2) := by decide +kernel
theorem dX6_readBranches_118 : decode cX6_readBranches 118 = .ok (.iastore, 1) := by decide +kernel
theorem dX6_readBranches_119 : decode cX6_readBranches 119 = .ok (.iconst 1, 1) := by decide +kernel
theorem dX6_readBranches_120 : decode cX6_readBranches 120 = .ok (.ireturn, 1) := by decide +kernel
theorem dX6_refuseToken_0 : decode cX6_refuseToken 0 = .ok (.aload_n 0, 1) := by decide +kernel
theorem dX6_refuseToken_1 : decode cX6_refuseToken 1 = .ok (.iconst 1, 1) := by decide +kernel
theorem dX6_refuseToken_2 : decode cX6_refuseToken 2 = .ok (.aload_n 0, 1) := by decide +kernel
theorem dX6_refuseToken_3 : decode cX6_refuseToken 3 = .ok (.getfield 21, 3) := by decide +kernel
theorem dX6_refuseToken_6 : decode cX6_refuseToken 6 = .ok (.getfield 82, 3) := by decide +kernel
theorem dX6_refuseToken_9 : decode cX6_refuseToken 9 = .ok (.invokevirtual 85, 3) := by decide +kernel
theorem dX6_refuseToken_12 : decode cX6_refuseToken 12 = .ok (.ireturn, 1) := by decide +kernel
theorem dX6_readIf_0 : decode cX6_readIf 0 = .ok (.aload_n 0, 1) := by decide +kernel
theorem dX6_readIf_1 : decode cX6_readIf 1 = .ok (.invokevirtual 166, 3) := by decide +kernel
theorem dX6_readIf_4 : decode cX6_readIf 4 = .ok (.ifCond .ne 5, 3) := by decide +kernel
theorem dX6_readIf_7 : decode cX6_readIf 7 = .ok (.iconst 0, 1) := by decide +kernel
theorem dX6_readIf_8 : decode cX6_readIf 8 = .ok (.ireturn, 1) := by decide +kernel
theorem dX6_readIf_9 : decode cX6_readIf 9 = .ok (.aload_n 0, 1) := by decide +kernel
theorem dX6_readIf_10 : decode cX6_readIf 10 = .ok (.getfield 43, 3) := by decide +kernel
theorem dX6_readIf_13 : decode cX6_readIf 13 = .ok (.iconst 3, 1) := by decide +kernel
theorem dX6_readIf_14 : decode cX6_readIf 14 = .ok (.if_icmp .lt 16, 3) := by decide +kernel
theorem dX6_readIf_17 : decode cX6_readIf 17 = .ok (.aload_n 0, 1) := by decide +kernel
theorem dX6_readIf_18 : decode cX6_readIf 18 = .ok (.iconst 4, 1) := by decide +kernel
theorem dX6_readIf_19 : decode cX6_readIf 19 = .ok (.aload_n 0, 1) := by decide +kernel
theorem dX6_readIf_20 : decode cX6_readIf 20 = .ok (.getfield 21, 3) := by decide +kernel
theorem dX6_readIf_23 : decode cX6_readIf 23 = .ok (.getfield 82, 3) := by decide +kernel
theorem dX6_readIf_26 : decode cX6_readIf 26 = .ok (.invokevirtual 85, 3) := by decide +kernel
theorem dX6_readIf_29 : decode cX6_readIf 29 = .ok (.ireturn, 1) := by decide +kernel
theorem dX6_readIf_30 : decode cX6_readIf 30 = .ok (.aload_n 0, 1) := by decide +kernel
theorem dX6_readIf_31 : decode cX6_readIf 31 = .ok (.getfield 21, 3) := by decide +kernel
theorem dX6_readIf_34 : decode cX6_readIf 34 = .ok (.invokevirtual 101, 3) := by decide +kernel
theorem dX6_readIf_37 : decode cX6_readIf 37 = .ok (.aload_n 0, 1) := by decide +kernel
theorem dX6_readIf_38 : decode cX6_readIf 38 = .ok (.getfield 21, 3) := by decide +kernel
theorem dX6_readIf_41 : decode cX6_readIf 41 = .ok (.getfield 60, 3) := by decide +kernel
theorem dX6_readIf_44 : decode cX6_readIf 44 = .ok (.bipush 12, 2) := by decide +kernel
theorem dX6_readIf_46 : decode cX6_readIf 46 = .ok (.if_icmp .eq 8, 3) := by decide +kernel
theorem dX6_readIf_49 : decode cX6_readIf 49 = .ok (.aload_n 0, 1) := by decide +kernel
theorem dX6_readIf_50 : decode cX6_readIf 50 = .ok (.invokevirtual 76, 3) := by decide +kernel
theorem dX6_readIf_53 : decode cX6_readIf 53 = .ok (.ireturn, 1) := by decide +kernel
theorem dX6_readIf_54 : decode cX6_readIf 54 = .ok (.aload_n 0, 1) := by decide +kernel
theorem dX6_readIf_55 : decode cX6_readIf 55 = .ok (.invokevirtual 163, 3) := by decide +kernel
theorem dX6_readIf_58 : decode cX6_readIf 58 = .ok (.ifCond .ne 5, 3) := by decide +kernel
theorem dX6_readIf_61 : decode cX6_readIf 61 = .ok (.iconst 0, 1) := by decide +kernel
theorem dX6_readIf_62 : decode cX6_readIf 62 = .ok (.ireturn, 1) := by decide +kernel
theorem dX6_readIf_63 : decode cX6_readIf 63 = .ok (.aload_n 0, 1) := by decide +kernel
theorem dX6_readIf_64 : decode cX6_readIf 64 = .ok (.getfield 21, 3) := by decide +kernel
theorem dX6_readIf_67 : decode cX6_readIf 67 = .ok (.getfield 111, 3) := by decide +kernel
theorem dX6_readIf_70 : decode cX6_readIf 70 = .ok (.istore_n 1, 1) := by decide +kernel
theorem dX6_readIf_71 : decode cX6_readIf 71 = .ok (.aload_n 0, 1) := by decide +kernel
theorem dX6_readIf_72 : decode cX6_readIf 72 = .ok (.getfield 21, 3) := by decide +kernel
theorem dX6_readIf_75 : decode cX6_readIf 75 = .ok (.invokevirtual 101, 3) := by decide +kernel
theorem dX6_readIf_78 : decode cX6_readIf 78 = .ok (.aload_n 0, 1) := by decide +kernel
theorem dX6_readIf_79 : decode cX6_readIf 79 = .ok (.bipush 17, 2) := by decide +kernel
theorem dX6_readIf_81 : decode cX6_readIf 81 = .ok (.invokevirtual 121, 3) := by decide +kernel
theorem dX6_readIf_84 : decode cX6_readIf 84 = .ok (.ifCond .ne 5, 3) := by decide +kernel
theorem dX6_readIf_87 : decode cX6_readIf 87 = .ok (.iconst 0, 1) := by decide +kernel
theorem dX6_readIf_88 : decode cX6_readIf 88 = .ok (.ireturn, 1) := by decide +kernel
theorem dX6_readIf_89 : decode cX6_readIf 89 = .ok (.aload_n 0, 1) := by decide +kernel
theorem dX6_readIf_90 : decode cX6_readIf 90 = .ok (.getfield 21, 3) := by decide +kernel
theorem dX6_readIf_93 : decode cX6_readIf 93 = .ok (.getfield 111, 3) := by decide +kernel
theorem dX6_readIf_96 : decode cX6_readIf 96 = .ok (.istore_n 2, 1) := by decide +kernel
theorem dX6_readIf_97 : decode cX6_readIf 97 = .ok (.aload_n 0, 1) := by decide +kernel
theorem dX6_readIf_98 : decode cX6_readIf 98 = .ok (.bipush 14, 2) := by decide +kernel
theorem dX6_readIf_100 : decode cX6_readIf 100 = .ok (.invokevirtual 121, 3) := by decide +kernel
theorem dX6_readIf_103 : decode cX6_readIf 103 = .ok (.ifCond .ne 5, 3) := by decide +kernel
theorem dX6_readIf_106 : decode cX6_readIf 106 = .ok (.iconst 0, 1) := by decide +kernel
theorem dX6_readIf_107 : decode cX6_readIf 107 = .ok (.ireturn, 1) := by decide +kernel
theorem dX6_readIf_108 : decode cX6_readIf 108 = .ok (.aload_n 0, 1) := by decide +kernel
theorem dX6_readIf_109 : decode cX6_readIf 109 = .ok (.dup, 1) := by decide +kernel
theorem dX6_readIf_110 : decode cX6_readIf 110 = .ok (.getfield 43, 3) := by decide +kernel
theorem dX6_readIf_113 : decode cX6_readIf 113 = .ok (.iconst 1, 1) := by decide +kernel
theorem dX6_readIf_114 : decode cX6_readIf 114 = .ok (.iadd, 1) := by decide +kernel
theorem dX6_readIf_115 : decode cX6_readIf 115 = .ok (.putfield 43, 3) := by decide +kernel
theorem dX6_readIf_118 : decode cX6_readIf 118 = .ok (.aload_n 0, 1) := by decide +kernel
theorem dX6_readIf_119 : decode cX6_readIf 119 = .ok (.aload_n 0, 1) := by decide +kernel
theorem dX6_readIf_120 : decode cX6_readIf 120 = .ok (.getfield 33, 3) := by decide +kernel
theorem dX6_readIf_123 : decode cX6_readIf 123 = .ok (.bipush 7, 2) := by decide +kernel
theorem dX6_readIf_125 : decode cX6_readIf 125 = .ok (.iload_n 1, 1) := by decide +kernel
theorem dX6_readIf_126 : decode cX6_readIf 126 = .ok (.iconst (-1), 1) := by decide +kernel
theorem dX6_readIf_127 : decode cX6_readIf 127 = .ok (.iload_n 2, 1) := by decide +kernel
theorem dX6_readIf_128 : decode cX6_readIf 128 = .ok (.iconst (-1), 1) := by decide +kernel
theorem dX6_readIf_129 : decode cX6_readIf 129 = .ok (.invokevirtual 70, 3) := by decide +kernel
theorem dX6_readIf_132 : decode cX6_readIf 132 = .ok (.invokevirtual 195, 3) := by decide +kernel
theorem dX6_readIf_135 : decode cX6_readIf 135 = .ok (.istore_n 3, 1) := by decide +kernel
theorem dX6_readIf_136 : decode cX6_readIf 136 = .ok (.aload_n 0, 1) := by decide +kernel
theorem dX6_readIf_137 : decode cX6_readIf 137 = .ok (.dup, 1) := by decide +kernel
theorem dX6_readIf_138 : decode cX6_readIf 138 = .ok (.getfield 43, 3) := by decide +kernel
theorem dX6_readIf_141 : decode cX6_readIf 141 = .ok (.iconst 1, 1) := by decide +kernel
theorem dX6_readIf_142 : decode cX6_readIf 142 = .ok (.isub, 1) := by decide +kernel
theorem dX6_readIf_143 : decode cX6_readIf 143 = .ok (.putfield 43, 3) := by decide +kernel
theorem dX6_readIf_146 : decode cX6_readIf 146 = .ok (.iload_n 3, 1) := by decide +kernel
theorem dX6_readIf_147 : decode cX6_readIf 147 = .ok (.ireturn, 1) := by decide +kernel
theorem dX6_readPlus_0 : decode cX6_readPlus 0 = .ok (.aload_n 0, 1) := by decide +kernel
theorem dX6_readPlus_1 : decode cX6_readPlus 1 = .ok (.getfield 46, 3) := by decide +kernel
theorem dX6_readPlus_4 : decode cX6_readPlus 4 = .ok (.iconst (-1), 1) := by decide +kernel
theorem dX6_readPlus_5 : decode cX6_readPlus 5 = .ok (.if_icmp .eq 15, 3) := by decide +kernel
theorem dX6_readPlus_8 : decode cX6_readPlus 8 = .ok (.aload_n 0, 1) := by decide +kernel
theorem dX6_readPlus_9 : decode cX6_readPlus 9 = .ok (.getfield 21, 3) := by decide +kernel
theorem dX6_readPlus_12 : decode cX6_readPlus 12 = .ok (.getfield 60, 3) := by decide +kernel
theorem dX6_readPlus_15 : decode cX6_readPlus 15 = .ok (.bipush 18, 2) := by decide +kernel
theorem dX6_readPlus_17 : decode cX6_readPlus 17 = .ok (.if_icmp .eq 5, 3) := by decide +kernel
theorem dX6_readPlus_20 : decode cX6_readPlus 20 = .ok (.iconst 1, 1) := by decide +kernel
theorem dX6_readPlus_21 : decode cX6_readPlus 21 = .ok (.ireturn, 1) := by decide +kernel
theorem dX6_readPlus_22 : decode cX6_readPlus 22 = .ok (.aload_n 0, 1) := by decide +kernel
theorem dX6_readPlus_23 : decode cX6_readPlus 23 = .ok (.getfield 21, 3) := by decide +kernel
theorem dX6_readPlus_26 : decode cX6_readPlus 26 = .ok (.invokevirtual 101, 3) := by decide +kernel
theorem dX6_readPlus_29 : decode cX6_readPlus 29 = .ok (.aload_n 0, 1) := by decide +kernel
theorem dX6_readPlus_30 : decode cX6_readPlus 30 = .ok (.aload_n 0, 1) := by decide +kernel
theorem dX6_readPlus_31 : decode cX6_readPlus 31 = .ok (.getfield 21, 3) := by decide +kernel
theorem dX6_readPlus_34 : decode cX6_readPlus 34 = .ok (.getfield 111, 3) := by decide +kernel
theorem dX6_readPlus_37 : decode cX6_readPlus 37 = .ok (.putfield 49, 3) := by decide +kernel
theorem dX6_readPlus_40 : decode cX6_readPlus 40 = .ok (.aload_n 0, 1) := by decide +kernel
theorem dX6_readPlus_41 : decode cX6_readPlus 41 = .ok (.bipush 14, 2) := by decide +kernel
theorem dX6_readPlus_43 : decode cX6_readPlus 43 = .ok (.invokevirtual 121, 3) := by decide +kernel
theorem dX6_readPlus_46 : decode cX6_readPlus 46 = .ok (.ireturn, 1) := by decide +kernel
theorem dX6_readRead_0 : decode cX6_readRead 0 = .ok (.aload_n 0, 1) := by decide +kernel
theorem dX6_readRead_1 : decode cX6_readRead 1 = .ok (.getfield 21, 3) := by decide +kernel
theorem dX6_readRead_4 : decode cX6_readRead 4 = .ok (.getfield 60, 3) := by decide +kernel
theorem dX6_readRead_7 : decode cX6_readRead 7 = .ok (.bipush 11, 2) := by decide +kernel
theorem dX6_readRead_9 : decode cX6_readRead 9 = .ok (.if_icmp .eq 8, 3) := by decide +kernel
theorem dX6_readRead_12 : decode cX6_readRead 12 = .ok (.aload_n 0, 1) := by decide +kernel
theorem dX6_readRead_13 : decode cX6_readRead 13 = .ok (.invokevirtual 76, 3) := by decide +kernel
theorem dX6_readRead_16 : decode cX6_readRead 16 = .ok (.ireturn, 1) := by decide +kernel
theorem dX6_readRead_17 : decode cX6_readRead 17 = .ok (.aload_n 0, 1) := by decide +kernel
theorem dX6_readRead_18 : decode cX6_readRead 18 = .ok (.invokevirtual 179, 3) := by decide +kernel
theorem dX6_readRead_21 : decode cX6_readRead 21 = .ok (.ifCond .eq 10, 3) := by decide +kernel
theorem dX6_readRead_24 : decode cX6_readRead 24 = .ok (.aload_n 0, 1) := by decide +kernel
theorem dX6_readRead_25 : decode cX6_readRead 25 = .ok (.invokevirtual 182, 3) := by decide +kernel
theorem dX6_readRead_28 : decode cX6_readRead 28 = .ok (.ifCond .ne 5, 3) := by decide +kernel
theorem dX6_readRead_31 : decode cX6_readRead 31 = .ok (.iconst 0, 1) := by decide +kernel
theorem dX6_readRead_32 : decode cX6_readRead 32 = .ok (.ireturn, 1) := by decide +kernel
theorem dX6_readRead_33 : decode cX6_readRead 33 = .ok (.aload_n 0, 1) := by decide +kernel
theorem dX6_readRead_34 : decode cX6_readRead 34 = .ok (.getfield 21, 3) := by decide +kernel
theorem dX6_readRead_37 : decode cX6_readRead 37 = .ok (.getfield 111, 3) := by decide +kernel
theorem dX6_readRead_40 : decode cX6_readRead 40 = .ok (.istore 4, 2) := by decide +kernel
theorem dX6_readRead_42 : decode cX6_readRead 42 = .ok (.iload_n 1, 1) := by decide +kernel
theorem dX6_readRead_43 : decode cX6_readRead 43 = .ok (.iconst 2, 1) := by decide +kernel
theorem dX6_readRead_44 : decode cX6_readRead 44 = .ok (.if_icmp .ne 34, 3) := by decide +kernel
theorem dX6_readRead_47 : decode cX6_readRead 47 = .ok (.aload_n 0, 1) := by decide +kernel
theorem dX6_readRead_48 : decode cX6_readRead 48 = .ok (.getfield 29, 3) := by decide +kernel
theorem dX6_readRead_51 : decode cX6_readRead 51 = .ok (.getfield 114, 3) := by decide +kernel
theorem dX6_readRead_54 : decode cX6_readRead 54 = .ok (.iload 4, 2) := by decide +kernel
theorem dX6_readRead_56 : decode cX6_readRead 56 = .ok (.bipush 7, 2) := by decide +kernel
theorem dX6_readRead_58 : decode cX6_readRead 58 = .ok (.iand, 1) := by decide +kernel
theorem dX6_readRead_59 : decode cX6_readRead 59 = .ok (.iaload, 1) := by decide +kernel
theorem dX6_readRead_60 : decode cX6_readRead 60 = .ok (.iconst 2, 1) := by decide +kernel
theorem dX6_readRead_61 : decode cX6_readRead 61 = .ok (.if_icmp .eq 17, 3) := by decide +kernel
theorem dX6_readRead_64 : decode cX6_readRead 64 = .ok (.aload_n 0, 1) := by decide +kernel
theorem dX6_readRead_65 : decode cX6_readRead 65 = .ok (.bipush 6, 2) := by decide +kernel
theorem dX6_readRead_67 : decode cX6_readRead 67 = .ok (.aload_n 0, 1) := by decide +kernel
theorem dX6_readRead_68 : decode cX6_readRead 68 = .ok (.getfield 21, 3) := by decide +kernel
theorem dX6_readRead_71 : decode cX6_readRead 71 = .ok (.getfield 82, 3) := by decide +kernel
theorem dX6_readRead_74 : decode cX6_readRead 74 = .ok (.invokevirtual 85, 3) := by decide +kernel
theorem dX6_readRead_77 : decode cX6_readRead 77 = .ok (.ireturn, 1) := by decide +kernel
theorem dX6_readRead_78 : decode cX6_readRead 78 = .ok (.aload_n 0, 1) := by decide +kernel
theorem dX6_readRead_79 : decode cX6_readRead 79 = .ok (.getfield 33, 3) := by decide +kernel
theorem dX6_readRead_82 : decode cX6_readRead 82 = .ok (.aload_n 0, 1) := by decide +kernel
theorem dX6_readRead_83 : decode cX6_readRead 83 = .ok (.getfield 37, 3) := by decide +kernel
theorem dX6_readRead_86 : decode cX6_readRead 86 = .ok (.iload_n 1, 1) := by decide +kernel
theorem dX6_readRead_87 : decode cX6_readRead 87 = .ok (.iload_n 2, 1) := by decide +kernel
theorem dX6_readRead_88 : decode cX6_readRead 88 = .ok (.iload_n 3, 1) := by decide +kernel
theorem dX6_readRead_89 : decode cX6_readRead 89 = .ok (.iconst (-1), 1) := by decide +kernel
theorem dX6_readRead_90 : decode cX6_readRead 90 = .ok (.iload 4, 2) := by decide +kernel
theorem dX6_readRead_92 : decode cX6_readRead 92 = .ok (.invokevirtual 185, 3) := by decide +kernel
theorem dX6_readRead_95 : decode cX6_readRead 95 = .ok (.aload_n 0, 1) := by decide +kernel
theorem dX6_readRead_96 : decode cX6_readRead 96 = .ok (.getfield 21, 3) := by decide +kernel
theorem dX6_readRead_99 : decode cX6_readRead 99 = .ok (.invokevirtual 101, 3) := by decide +kernel
theorem dX6_readRead_102 : decode cX6_readRead 102 = .ok (.aload_n 0, 1) := by decide +kernel
theorem dX6_readRead_103 : decode cX6_readRead 103 = .ok (.bipush 15, 2) := by decide +kernel
theorem dX6_readRead_105 : decode cX6_readRead 105 = .ok (.invokevirtual 121, 3) := by decide +kernel
theorem dX6_readRead_108 : decode cX6_readRead 108 = .ok (.ireturn, 1) := by decide +kernel
theorem dX6_readTerm_0 : decode cX6_readTerm 0 = .ok (.aload_n 0, 1) := by decide +kernel
theorem dX6_readTerm_1 : decode cX6_readTerm 1 = .ok (.iconst (-1), 1) := by decide +kernel
theorem dX6_readTerm_2 : decode cX6_readTerm 2 = .ok (.putfield 46, 3) := by decide +kernel
theorem dX6_readTerm_5 : decode cX6_readTerm 5 = .ok (.aload_n 0, 1) := by decide +kernel
theorem dX6_readTerm_6 : decode cX6_readTerm 6 = .ok (.iconst (-1), 1) := by decide +kernel
theorem dX6_readTerm_7 : decode cX6_readTerm 7 = .ok (.putfield 49, 3) := by decide +kernel
theorem dX6_readTerm_10 : decode cX6_readTerm 10 = .ok (.aload_n 0, 1) := by decide +kernel
theorem dX6_readTerm_11 : decode cX6_readTerm 11 = .ok (.getfield 21, 3) := by decide +kernel
theorem dX6_readTerm_14 : decode cX6_readTerm 14 = .ok (.getfield 60, 3) := by decide +kernel
theorem dX6_readTerm_17 : decode cX6_readTerm 17 = .ok (.bipush 14, 2) := by decide +kernel
theorem dX6_readTerm_19 : decode cX6_readTerm 19 = .ok (.if_icmp .ne 17, 3) := by decide +kernel
theorem dX6_readTerm_22 : decode cX6_readTerm 22 = .ok (.aload_n 0, 1) := by decide +kernel
theorem dX6_readTerm_23 : decode cX6_readTerm 23 = .ok (.aload_n 0, 1) := by decide +kernel
theorem dX6_readTerm_24 : decode cX6_readTerm 24 = .ok (.getfield 21, 3) := by decide +kernel
theorem dX6_readTerm_27 : decode cX6_readTerm 27 = .ok (.getfield 111, 3) := by decide +kernel
theorem dX6_readTerm_30 : decode cX6_readTerm 30 = .ok (.putfield 49, 3) := by decide +kernel
theorem dX6_readTerm_33 : decode cX6_readTerm 33 = .ok (.goto 40, 3) := by decide +kernel
theorem dX6_readTerm_36 : decode cX6_readTerm 36 = .ok (.aload_n 0, 1) := by decide +kernel
theorem dX6_readTerm_37 : decode cX6_readTerm 37 = .ok (.getfield 21, 3) := by decide +kernel
theorem dX6_readTerm_40 : decode cX6_readTerm 40 = .ok (.getfield 60, 3) := by decide +kernel
theorem dX6_readTerm_43 : decode cX6_readTerm 43 = .ok (.bipush 12, 2) := by decide +kernel
theorem dX6_readTerm_45 : decode cX6_readTerm 45 = .ok (.if_icmp .eq 8, 3) := by decide +kernel
theorem dX6_readTerm_48 : decode cX6_readTerm 48 = .ok (.aload_n 0, 1) := by decide +kernel
theorem dX6_readTerm_49 : decode cX6_readTerm 49 = .ok (.invokevirtual 76, 3) := by decide +kernel
theorem dX6_readTerm_52 : decode cX6_readTerm 52 = .ok (.ireturn, 1) := by decide +kernel
theorem dX6_readTerm_53 : decode cX6_readTerm 53 = .ok (.aload_n 0, 1) := by decide +kernel
theorem dX6_readTerm_54 : decode cX6_readTerm 54 = .ok (.invokevirtual 163, 3) := by decide +kernel
theorem dX6_readTerm_57 : decode cX6_readTerm 57 = .ok (.ifCond .ne 5, 3) := by decide +kernel
theorem dX6_readTerm_60 : decode cX6_readTerm 60 = .ok (.iconst 0, 1) := by decide +kernel
theorem dX6_readTerm_61 : decode cX6_readTerm 61 = .ok (.ireturn, 1) := by decide +kernel
theorem dX6_readTerm_62 : decode cX6_readTerm 62 = .ok (.aload_n 0, 1) := by decide +kernel
theorem dX6_readTerm_63 : decode cX6_readTerm 63 = .ok (.aload_n 0, 1) := by decide +kernel
theorem dX6_readTerm_64 : decode cX6_readTerm 64 = .ok (.getfield 21, 3) := by decide +kernel
theorem dX6_readTerm_67 : decode cX6_readTerm 67 = .ok (.getfield 111, 3) := by decide +kernel
theorem dX6_readTerm_70 : decode cX6_readTerm 70 = .ok (.putfield 46, 3) := by decide +kernel
theorem dX6_readTerm_73 : decode cX6_readTerm 73 = .ok (.aload_n 0, 1) := by decide +kernel
theorem dX6_readTerm_74 : decode cX6_readTerm 74 = .ok (.getfield 21, 3) := by decide +kernel
theorem dX6_readTerm_77 : decode cX6_readTerm 77 = .ok (.invokevirtual 101, 3) := by decide +kernel
theorem dX6_readTerm_80 : decode cX6_readTerm 80 = .ok (.iconst 1, 1) := by decide +kernel
theorem dX6_readTerm_81 : decode cX6_readTerm 81 = .ok (.ireturn, 1) := by decide +kernel
theorem dX6_readLocalStatement_0 : decode cX6_readLocalStatement 0 = .ok (.aload_n 0, 1) := by decide +kernel
theorem dX6_readLocalStatement_1 : decode cX6_readLocalStatement 1 = .ok (.invokevirtual 163, 3) := by decide +kernel
theorem dX6_readLocalStatement_4 : decode cX6_readLocalStatement 4 = .ok (.ifCond .eq 10, 3) := by decide +kernel
theorem dX6_readLocalStatement_7 : decode cX6_readLocalStatement 7 = .ok (.aload_n 0, 1) := by decide +kernel
theorem dX6_readLocalStatement_8 : decode cX6_readLocalStatement 8 = .ok (.invokevirtual 166, 3) := by decide +kernel
theorem dX6_readLocalStatement_11 : decode cX6_readLocalStatement 11 = .ok (.ifCond .ne 5, 3) := by decide +kernel
theorem dX6_readLocalStatement_14 : decode cX6_readLocalStatement 14 = .ok (.iconst 0, 1) := by decide +kernel
theorem dX6_readLocalStatement_15 : decode cX6_readLocalStatement 15 = .ok (.ireturn, 1) := by decide +kernel
theorem dX6_readLocalStatement_16 : decode cX6_readLocalStatement 16 = .ok (.aload_n 0, 1) := by decide +kernel
theorem dX6_readLocalStatement_17 : decode cX6_readLocalStatement 17 = .ok (.getfield 21, 3) := by decide +kernel
theorem dX6_readLocalStatement_20 : decode cX6_readLocalStatement 20 = .ok (.getfield 111, 3) := by decide +kernel
theorem dX6_readLocalStatement_23 : decode cX6_readLocalStatement 23 = .ok (.istore_n 1, 1) := by decide +kernel
theorem dX6_readLocalStatement_24 : decode cX6_readLocalStatement 24 = .ok (.aload_n 0, 1) := by decide +kernel
theorem dX6_readLocalStatement_25 : decode cX6_readLocalStatement 25 = .ok (.getfield 21, 3) := by decide +kernel
theorem dX6_readLocalStatement_28 : decode cX6_readLocalStatement 28 = .ok (.invokevirtual 101, 3) := by decide +kernel
theorem dX6_readLocalStatement_31 : decode cX6_readLocalStatement 31 = .ok (.aload_n 0, 1) := by decide +kernel
theorem dX6_readLocalStatement_32 : decode cX6_readLocalStatement 32 = .ok (.bipush 16, 2) := by decide +kernel
theorem dX6_readLocalStatement_34 : decode cX6_readLocalStatement 34 = .ok (.invokevirtual 121, 3) := by decide +kernel
theorem dX6_readLocalStatement_37 : decode cX6_readLocalStatement 37 = .ok (.ifCond .ne 5, 3) := by decide +kernel
theorem dX6_readLocalStatement_40 : decode cX6_readLocalStatement 40 = .ok (.iconst 0, 1) := by decide +kernel
theorem dX6_readLocalStatement_41 : decode cX6_readLocalStatement 41 = .ok (.ireturn, 1) := by decide +kernel
theorem dX6_readLocalStatement_42 : decode cX6_readLocalStatement 42 = .ok (.aload_n 0, 1) := by decide +kernel
theorem dX6_readLocalStatement_43 : decode cX6_readLocalStatement 43 = .ok (.getfield 21, 3) := by decide +kernel
theorem dX6_readLocalStatement_46 : decode cX6_readLocalStatement 46 = .ok (.getfield 60, 3) := by decide +kernel
theorem dX6_readLocalStatement_49 : decode cX6_readLocalStatement 49 = .ok (.bipush 11, 2) := by decide +kernel
theorem dX6_readLocalStatement_51 : decode cX6_readLocalStatement 51 = .ok (.if_icmp .ne 11, 3) := by decide +kernel
theorem dX6_readLocalStatement_54 : decode cX6_readLocalStatement 54 = .ok (.aload_n 0, 1) := by decide +kernel
theorem dX6_readLocalStatement_55 : decode cX6_readLocalStatement 55 = .ok (.iconst 0, 1) := by decide +kernel
theorem dX6_readLocalStatement_56 : decode cX6_readLocalStatement 56 = .ok (.iload_n 1, 1) := by decide +kernel
theorem dX6_readLocalStatement_57 : decode cX6_readLocalStatement 57 = .ok (.iconst (-1), 1) := by decide +kernel
theorem dX6_readLocalStatement_58 : decode cX6_readLocalStatement 58 = .ok (.invokevirtual 169, 3) := by decide +kernel
theorem dX6_readLocalStatement_61 : decode cX6_readLocalStatement 61 = .ok (.ireturn, 1) := by decide +kernel
theorem dX6_readLocalStatement_62 : decode cX6_readLocalStatement 62 = .ok (.aload_n 0, 1) := by decide +kernel
theorem dX6_readLocalStatement_63 : decode cX6_readLocalStatement 63 = .ok (.invokevirtual 173, 3) := by decide +kernel
theorem dX6_readLocalStatement_66 : decode cX6_readLocalStatement 66 = .ok (.ifCond .ne 5, 3) := by decide +kernel
theorem dX6_readLocalStatement_69 : decode cX6_readLocalStatement 69 = .ok (.iconst 0, 1) := by decide +kernel
theorem dX6_readLocalStatement_70 : decode cX6_readLocalStatement 70 = .ok (.ireturn, 1) := by decide +kernel
theorem dX6_readLocalStatement_71 : decode cX6_readLocalStatement 71 = .ok (.aload_n 0, 1) := by decide +kernel
theorem dX6_readLocalStatement_72 : decode cX6_readLocalStatement 72 = .ok (.getfield 21, 3) := by decide +kernel
theorem dX6_readLocalStatement_75 : decode cX6_readLocalStatement 75 = .ok (.getfield 60, 3) := by decide +kernel
theorem dX6_readLocalStatement_78 : decode cX6_readLocalStatement 78 = .ok (.bipush 19, 2) := by decide +kernel
theorem dX6_readLocalStatement_80 : decode cX6_readLocalStatement 80 = .ok (.if_icmp .ne 29, 3) := by decide +kernel
theorem dX6_readLocalStatement_83 : decode cX6_readLocalStatement 83 = .ok (.aload_n 0, 1) := by decide +kernel
theorem dX6_readLocalStatement_84 : decode cX6_readLocalStatement 84 = .ok (.getfield 49, 3) := by decide +kernel
theorem dX6_readLocalStatement_87 : decode cX6_readLocalStatement 87 = .ok (.iconst (-1), 1) := by decide +kernel
theorem dX6_readLocalStatement_88 : decode cX6_readLocalStatement 88 = .ok (.if_icmp .ne 21, 3) := by decide +kernel
theorem dX6_readLocalStatement_91 : decode cX6_readLocalStatement 91 = .ok (.aload_n 0, 1) := by decide +kernel
theorem dX6_readLocalStatement_92 : decode cX6_readLocalStatement 92 = .ok (.getfield 21, 3) := by decide +kernel
theorem dX6_readLocalStatement_95 : decode cX6_readLocalStatement 95 = .ok (.invokevirtual 101, 3) := by decide +kernel
theorem dX6_readLocalStatement_98 : decode cX6_readLocalStatement 98 = .ok (.aload_n 0, 1) := by decide +kernel
theorem dX6_readLocalStatement_99 : decode cX6_readLocalStatement 99 = .ok (.iconst 2, 1) := by decide +kernel
theorem dX6_readLocalStatement_100 : decode cX6_readLocalStatement 100 = .ok (.iload_n 1, 1) := by decide +kernel
theorem dX6_readLocalStatement_101 : decode cX6_readLocalStatement 101 = .ok (.aload_n 0, 1) := by decide +kernel
theorem dX6_readLocalStatement_102 : decode cX6_readLocalStatement 102 = .ok (.getfield 46, 3) := by decide +kernel
theorem dX6_readLocalStatement_105 : decode cX6_readLocalStatement 105 = .ok (.invokevirtual 169, 3) := by decide +kernel
theorem dX6_readLocalStatement_108 : decode cX6_readLocalStatement 108 = .ok (.ireturn, 1) := by decide +kernel
theorem dX6_readLocalStatement_109 : decode cX6_readLocalStatement 109 = .ok (.aload_n 0, 1) := by decide +kernel
theorem dX6_readLocalStatement_110 : decode cX6_readLocalStatement 110 = .ok (.invokevirtual 176, 3) := by decide +kernel
theorem dX6_readLocalStatement_113 : decode cX6_readLocalStatement 113 = .ok (.ifCond .ne 5, 3) := by decide +kernel
theorem dX6_readLocalStatement_116 : decode cX6_readLocalStatement 116 = .ok (.iconst 0, 1) := by decide +kernel
theorem dX6_readLocalStatement_117 : decode cX6_readLocalStatement 117 = .ok (.ireturn, 1) := by decide +kernel
theorem dX6_readLocalStatement_118 : decode cX6_readLocalStatement 118 = .ok (.aload_n 0, 1) := by decide +kernel
theorem dX6_readLocalStatement_119 : decode cX6_readLocalStatement 119 = .ok (.getfield 33, 3) := by decide +kernel
theorem dX6_readLocalStatement_122 : decode cX6_readLocalStatement 122 = .ok (.bipush 6, 2) := by decide +kernel
theorem dX6_readLocalStatement_124 : decode cX6_readLocalStatement 124 = .ok (.iload_n 1, 1) := by decide +kernel
theorem dX6_readLocalStatement_125 : decode cX6_readLocalStatement 125 = .ok (.aload_n 0, 1) := by decide +kernel
theorem dX6_readLocalStatement_126 : decode cX6_readLocalStatement 126 = .ok (.getfield 46, 3) := by decide +kernel
theorem dX6_readLocalStatement_129 : decode cX6_readLocalStatement 129 = .ok (.aload_n 0, 1) := by decide +kernel
theorem dX6_readLocalStatement_130 : decode cX6_readLocalStatement 130 = .ok (.getfield 49, 3) := by decide +kernel
theorem dX6_readLocalStatement_133 : decode cX6_readLocalStatement 133 = .ok (.iconst (-1), 1) := by decide +kernel
theorem dX6_readLocalStatement_134 : decode cX6_readLocalStatement 134 = .ok (.invokevirtual 70, 3) := by decide +kernel
theorem dX6_readLocalStatement_137 : decode cX6_readLocalStatement 137 = .ok (.pop, 1) := by decide +kernel
theorem dX6_readLocalStatement_138 : decode cX6_readLocalStatement 138 = .ok (.aload_n 0, 1) := by decide +kernel
theorem dX6_readLocalStatement_139 : decode cX6_readLocalStatement 139 = .ok (.bipush 15, 2) := by decide +kernel
theorem dX6_readLocalStatement_141 : decode cX6_readLocalStatement 141 = .ok (.invokevirtual 121, 3) := by decide +kernel
theorem dX6_readLocalStatement_144 : decode cX6_readLocalStatement 144 = .ok (.ireturn, 1) := by decide +kernel
theorem dX6_readMonitorStatement_0 : decode cX6_readMonitorStatement 0 = .ok (.aload_n 0, 1) := by decide +kernel
theorem dX6_readMonitorStatement_1 : decode cX6_readMonitorStatement 1 = .ok (.getfield 21, 3) := by decide +kernel
theorem dX6_readMonitorStatement_4 : decode cX6_readMonitorStatement 4 = .ok (.getfield 82, 3) := by decide +kernel
theorem dX6_readMonitorStatement_7 : decode cX6_readMonitorStatement 7 = .ok (.istore_n 2, 1) := by decide +kernel
theorem dX6_readMonitorStatement_8 : decode cX6_readMonitorStatement 8 = .ok (.aload_n 0, 1) := by decide +kernel
theorem dX6_readMonitorStatement_9 : decode cX6_readMonitorStatement 9 = .ok (.invokevirtual 166, 3) := by decide +kernel
theorem dX6_readMonitorStatement_12 : decode cX6_readMonitorStatement 12 = .ok (.ifCond .eq 10, 3) := by decide +kernel
theorem dX6_readMonitorStatement_15 : decode cX6_readMonitorStatement 15 = .ok (.aload_n 0, 1) := by decide +kernel
theorem dX6_readMonitorStatement_16 : decode cX6_readMonitorStatement 16 = .ok (.invokevirtual 182, 3) := by decide +kernel
theorem dX6_readMonitorStatement_19 : decode cX6_readMonitorStatement 19 = .ok (.ifCond .ne 5, 3) := by decide +kernel
theorem dX6_readMonitorStatement_22 : decode cX6_readMonitorStatement 22 = .ok (.iconst 0, 1) := by decide +kernel
theorem dX6_readMonitorStatement_23 : decode cX6_readMonitorStatement 23 = .ok (.ireturn, 1) := by decide +kernel
theorem dX6_readMonitorStatement_24 : decode cX6_readMonitorStatement 24 = .ok (.aload_n 0, 1) := by decide +kernel
theorem dX6_readMonitorStatement_25 : decode cX6_readMonitorStatement 25 = .ok (.getfield 21, 3) := by decide +kernel
theorem dX6_readMonitorStatement_28 : decode cX6_readMonitorStatement 28 = .ok (.invokevirtual 101, 3) := by decide +kernel
theorem dX6_readMonitorStatement_31 : decode cX6_readMonitorStatement 31 = .ok (.aload_n 0, 1) := by decide +kernel
theorem dX6_readMonitorStatement_32 : decode cX6_readMonitorStatement 32 = .ok (.getfield 21, 3) := by decide +kernel
theorem dX6_readMonitorStatement_35 : decode cX6_readMonitorStatement 35 = .ok (.getfield 60, 3) := by decide +kernel
theorem dX6_readMonitorStatement_38 : decode cX6_readMonitorStatement 38 = .ok (.bipush 13, 2) := by decide +kernel
theorem dX6_readMonitorStatement_40 : decode cX6_readMonitorStatement 40 = .ok (.if_icmp .eq 8, 3) := by decide +kernel
theorem dX6_readMonitorStatement_43 : decode cX6_readMonitorStatement 43 = .ok (.aload_n 0, 1) := by decide +kernel
theorem dX6_readMonitorStatement_44 : decode cX6_readMonitorStatement 44 = .ok (.invokevirtual 76, 3) := by decide +kernel
theorem dX6_readMonitorStatement_47 : decode cX6_readMonitorStatement 47 = .ok (.ireturn, 1) := by decide +kernel
theorem dX6_readMonitorStatement_48 : decode cX6_readMonitorStatement 48 = .ok (.aload_n 0, 1) := by decide +kernel
theorem dX6_readMonitorStatement_49 : decode cX6_readMonitorStatement 49 = .ok (.getfield 21, 3) := by decide +kernel
theorem dX6_readMonitorStatement_52 : decode cX6_readMonitorStatement 52 = .ok (.getfield 111, 3) := by decide +kernel
theorem dX6_readMonitorStatement_55 : decode cX6_readMonitorStatement 55 = .ok (.iconst 1, 1) := by decide +kernel
theorem dX6_readMonitorStatement_56 : decode cX6_readMonitorStatement 56 = .ok (.iand, 1) := by decide +kernel
theorem dX6_readMonitorStatement_57 : decode cX6_readMonitorStatement 57 = .ok (.istore_n 3, 1) := by decide +kernel
theorem dX6_readMonitorStatement_58 : decode cX6_readMonitorStatement 58 = .ok (.aload_n 0, 1) := by decide +kernel
theorem dX6_readMonitorStatement_59 : decode cX6_readMonitorStatement 59 = .ok (.getfield 40, 3) := by decide +kernel
theorem dX6_readMonitorStatement_62 : decode cX6_readMonitorStatement 62 = .ok (.iload_n 3, 1) := by decide +kernel
theorem dX6_readMonitorStatement_63 : decode cX6_readMonitorStatement 63 = .ok (.ishr, 1) := by decide +kernel
theorem dX6_readMonitorStatement_64 : decode cX6_readMonitorStatement 64 = .ok (.iconst 1, 1) := by decide +kernel
theorem dX6_readMonitorStatement_65 : decode cX6_readMonitorStatement 65 = .ok (.iand, 1) := by decide +kernel
theorem dX6_readMonitorStatement_66 : decode cX6_readMonitorStatement 66 = .ok (.ifCond .eq 7, 3) := by decide +kernel
theorem dX6_readMonitorStatement_69 : decode cX6_readMonitorStatement 69 = .ok (.iconst 1, 1) := by decide +kernel
theorem dX6_readMonitorStatement_70 : decode cX6_readMonitorStatement 70 = .ok (.goto 4, 3) := by decide +kernel
theorem dX6_readMonitorStatement_73 : decode cX6_readMonitorStatement 73 = .ok (.iconst 0, 1) := by decide +kernel
theorem dX6_readMonitorStatement_74 : decode cX6_readMonitorStatement 74 = .ok (.istore 4, 2) := by decide +kernel
theorem dX6_readMonitorStatement_76 : decode cX6_readMonitorStatement 76 = .ok (.iload 4, 2) := by decide +kernel
theorem dX6_readMonitorStatement_78 : decode cX6_readMonitorStatement 78 = .ok (.iload_n 1, 1) := by decide +kernel
theorem dX6_readMonitorStatement_79 : decode cX6_readMonitorStatement 79 = .ok (.iconst 3, 1) := by decide +kernel
theorem dX6_readMonitorStatement_80 : decode cX6_readMonitorStatement 80 = .ok (.if_icmp .ne 7, 3) := by decide +kernel
theorem dX6_readMonitorStatement_83 : decode cX6_readMonitorStatement 83 = .ok (.iconst 1, 1) := by decide +kernel
theorem dX6_readMonitorStatement_84 : decode cX6_readMonitorStatement 84 = .ok (.goto 4, 3) := by decide +kernel
theorem dX6_readMonitorStatement_87 : decode cX6_readMonitorStatement 87 = .ok (.iconst 0, 1) := by decide +kernel
theorem dX6_readMonitorStatement_88 : decode cX6_readMonitorStatement 88 = .ok (.if_icmp .ne 10, 3) := by decide +kernel
theorem dX6_readMonitorStatement_91 : decode cX6_readMonitorStatement 91 = .ok (.aload_n 0, 1) := by decide +kernel
theorem dX6_readMonitorStatement_92 : decode cX6_readMonitorStatement 92 = .ok (.iconst 5, 1) := by decide +kernel
theorem dX6_readMonitorStatement_93 : decode cX6_readMonitorStatement 93 = .ok (.iload_n 2, 1) := by decide +kernel
theorem dX6_readMonitorStatement_94 : decode cX6_readMonitorStatement 94 = .ok (.invokevirtual 85, 3) := by decide +kernel
theorem dX6_readMonitorStatement_97 : decode cX6_readMonitorStatement 97 = .ok (.ireturn, 1) := by decide +kernel
theorem dX6_readMonitorStatement_98 : decode cX6_readMonitorStatement 98 = .ok (.aload_n 0, 1) := by decide +kernel
theorem dX6_readMonitorStatement_99 : decode cX6_readMonitorStatement 99 = .ok (.dup, 1) := by decide +kernel
theorem dX6_readMonitorStatement_100 : decode cX6_readMonitorStatement 100 = .ok (.getfield 40, 3) := by decide +kernel
theorem dX6_readMonitorStatement_103 : decode cX6_readMonitorStatement 103 = .ok (.iconst 1, 1) := by decide +kernel
theorem dX6_readMonitorStatement_104 : decode cX6_readMonitorStatement 104 = .ok (.iload_n 3, 1) := by decide +kernel
theorem dX6_readMonitorStatement_105 : decode cX6_readMonitorStatement 105 = .ok (.ishl, 1) := by decide +kernel
theorem dX6_readMonitorStatement_106 : decode cX6_readMonitorStatement 106 = .ok (.ixor, 1) := by decide +kernel
theorem dX6_readMonitorStatement_107 : decode cX6_readMonitorStatement 107 = .ok (.putfield 40, 3) := by decide +kernel
theorem dX6_readMonitorStatement_110 : decode cX6_readMonitorStatement 110 = .ok (.aload_n 0, 1) := by decide +kernel
theorem dX6_readMonitorStatement_111 : decode cX6_readMonitorStatement 111 = .ok (.getfield 33, 3) := by decide +kernel
theorem dX6_readMonitorStatement_114 : decode cX6_readMonitorStatement 114 = .ok (.dup, 1) := by decide +kernel
theorem dX6_readMonitorStatement_115 : decode cX6_readMonitorStatement 115 = .ok (.getfield 192, 3) := by decide +kernel
theorem dX6_readMonitorStatement_118 : decode cX6_readMonitorStatement 118 = .ok (.iconst 1, 1) := by decide +kernel
theorem dX6_readMonitorStatement_119 : decode cX6_readMonitorStatement 119 = .ok (.iload_n 3, 1) := by decide +kernel
theorem dX6_readMonitorStatement_120 : decode cX6_readMonitorStatement 120 = .ok (.ishl, 1) := by decide +kernel
theorem dX6_readMonitorStatement_121 : decode cX6_readMonitorStatement 121 = .ok (.ior, 1) := by decide +kernel
theorem dX6_readMonitorStatement_122 : decode cX6_readMonitorStatement 122 = .ok (.putfield 192, 3) := by decide +kernel
theorem dX6_readMonitorStatement_125 : decode cX6_readMonitorStatement 125 = .ok (.aload_n 0, 1) := by decide +kernel
theorem dX6_readMonitorStatement_126 : decode cX6_readMonitorStatement 126 = .ok (.getfield 33, 3) := by decide +kernel
theorem dX6_readMonitorStatement_129 : decode cX6_readMonitorStatement 129 = .ok (.aload_n 0, 1) := by decide +kernel
theorem dX6_readMonitorStatement_130 : decode cX6_readMonitorStatement 130 = .ok (.getfield 37, 3) := by decide +kernel
theorem dX6_readMonitorStatement_133 : decode cX6_readMonitorStatement 133 = .ok (.iload_n 1, 1) := by decide +kernel
theorem dX6_readMonitorStatement_134 : decode cX6_readMonitorStatement 134 = .ok (.iconst (-1), 1) := by decide +kernel
theorem dX6_readMonitorStatement_135 : decode cX6_readMonitorStatement 135 = .ok (.iconst (-1), 1) := by decide +kernel
theorem dX6_readMonitorStatement_136 : decode cX6_readMonitorStatement 136 = .ok (.iconst (-1), 1) := by decide +kernel
theorem dX6_readMonitorStatement_137 : decode cX6_readMonitorStatement 137 = .ok (.iload_n 3, 1) := by decide +kernel
theorem dX6_readMonitorStatement_138 : decode cX6_readMonitorStatement 138 = .ok (.invokevirtual 185, 3) := by decide +kernel
theorem dX6_readMonitorStatement_141 : decode cX6_readMonitorStatement 141 = .ok (.aload_n 0, 1) := by decide +kernel
theorem dX6_readMonitorStatement_142 : decode cX6_readMonitorStatement 142 = .ok (.getfield 21, 3) := by decide +kernel
theorem dX6_readMonitorStatement_145 : decode cX6_readMonitorStatement 145 = .ok (.invokevirtual 101, 3) := by decide +kernel
theorem dX6_readMonitorStatement_148 : decode cX6_readMonitorStatement 148 = .ok (.aload_n 0, 1) := by decide +kernel
theorem dX6_readMonitorStatement_149 : decode cX6_readMonitorStatement 149 = .ok (.bipush 15, 2) := by decide +kernel
theorem dX6_readMonitorStatement_151 : decode cX6_readMonitorStatement 151 = .ok (.invokevirtual 121, 3) := by decide +kernel
theorem dX6_readMonitorStatement_154 : decode cX6_readMonitorStatement 154 = .ok (.ireturn, 1) := by decide +kernel
theorem dX6_readWrite_0 : decode cX6_readWrite 0 = .ok (.aload_n 0, 1) := by decide +kernel
theorem dX6_readWrite_1 : decode cX6_readWrite 1 = .ok (.invokevirtual 179, 3) := by decide +kernel
theorem dX6_readWrite_4 : decode cX6_readWrite 4 = .ok (.ifCond .eq 17, 3) := by decide +kernel
theorem dX6_readWrite_7 : decode cX6_readWrite 7 = .ok (.aload_n 0, 1) := by decide +kernel
theorem dX6_readWrite_8 : decode cX6_readWrite 8 = .ok (.invokevirtual 166, 3) := by decide +kernel
theorem dX6_readWrite_11 : decode cX6_readWrite 11 = .ok (.ifCond .eq 10, 3) := by decide +kernel
theorem dX6_readWrite_14 : decode cX6_readWrite 14 = .ok (.aload_n 0, 1) := by decide +kernel
theorem dX6_readWrite_15 : decode cX6_readWrite 15 = .ok (.invokevirtual 182, 3) := by decide +kernel
theorem dX6_readWrite_18 : decode cX6_readWrite 18 = .ok (.ifCond .ne 5, 3) := by decide +kernel
theorem dX6_readWrite_21 : decode cX6_readWrite 21 = .ok (.iconst 0, 1) := by decide +kernel
theorem dX6_readWrite_22 : decode cX6_readWrite 22 = .ok (.ireturn, 1) := by decide +kernel
theorem dX6_readWrite_23 : decode cX6_readWrite 23 = .ok (.aload_n 0, 1) := by decide +kernel
theorem dX6_readWrite_24 : decode cX6_readWrite 24 = .ok (.getfield 21, 3) := by decide +kernel
theorem dX6_readWrite_27 : decode cX6_readWrite 27 = .ok (.getfield 111, 3) := by decide +kernel
theorem dX6_readWrite_30 : decode cX6_readWrite 30 = .ok (.istore_n 1, 1) := by decide +kernel
theorem dX6_readWrite_31 : decode cX6_readWrite 31 = .ok (.aload_n 0, 1) := by decide +kernel
theorem dX6_readWrite_32 : decode cX6_readWrite 32 = .ok (.getfield 29, 3) := by decide +kernel
theorem dX6_readWrite_35 : decode cX6_readWrite 35 = .ok (.getfield 114, 3) := by decide +kernel
theorem dX6_readWrite_38 : decode cX6_readWrite 38 = .ok (.iload_n 1, 1) := by decide +kernel
theorem dX6_readWrite_39 : decode cX6_readWrite 39 = .ok (.bipush 7, 2) := by decide +kernel
theorem dX6_readWrite_41 : decode cX6_readWrite 41 = .ok (.iand, 1) := by decide +kernel
theorem dX6_readWrite_42 : decode cX6_readWrite 42 = .ok (.iaload, 1) := by decide +kernel
theorem dX6_readWrite_43 : decode cX6_readWrite 43 = .ok (.iconst 2, 1) := by decide +kernel
theorem dX6_readWrite_44 : decode cX6_readWrite 44 = .ok (.if_icmp .ne 12, 3) := by decide +kernel
theorem dX6_readWrite_47 : decode cX6_readWrite 47 = .ok (.aload_n 0, 1) := by decide +kernel
theorem dX6_readWrite_48 : decode cX6_readWrite 48 = .ok (.invokevirtual 189, 3) := by decide +kernel
theorem dX6_readWrite_51 : decode cX6_readWrite 51 = .ok (.ifCond .ne 5, 3) := by decide +kernel
theorem dX6_readWrite_54 : decode cX6_readWrite 54 = .ok (.iconst 0, 1) := by decide +kernel
theorem dX6_readWrite_55 : decode cX6_readWrite 55 = .ok (.ireturn, 1) := by decide +kernel
theorem dX6_readWrite_56 : decode cX6_readWrite 56 = .ok (.aload_n 0, 1) := by decide +kernel
theorem dX6_readWrite_57 : decode cX6_readWrite 57 = .ok (.getfield 21, 3) := by decide +kernel
theorem dX6_readWrite_60 : decode cX6_readWrite 60 = .ok (.invokevirtual 101, 3) := by decide +kernel
theorem dX6_readWrite_63 : decode cX6_readWrite 63 = .ok (.aload_n 0, 1) := by decide +kernel
theorem dX6_readWrite_64 : decode cX6_readWrite 64 = .ok (.bipush 16, 2) := by decide +kernel
theorem dX6_readWrite_66 : decode cX6_readWrite 66 = .ok (.invokevirtual 121, 3) := by decide +kernel
theorem dX6_readWrite_69 : decode cX6_readWrite 69 = .ok (.ifCond .eq 17, 3) := by decide +kernel
theorem dX6_readWrite_72 : decode cX6_readWrite 72 = .ok (.aload_n 0, 1) := by decide +kernel
theorem dX6_readWrite_73 : decode cX6_readWrite 73 = .ok (.invokevirtual 173, 3) := by decide +kernel
theorem dX6_readWrite_76 : decode cX6_readWrite 76 = .ok (.ifCond .eq 10, 3) := by decide +kernel
theorem dX6_readWrite_79 : decode cX6_readWrite 79 = .ok (.aload_n 0, 1) := by decide +kernel
theorem dX6_readWrite_80 : decode cX6_readWrite 80 = .ok (.invokevirtual 176, 3) := by decide +kernel
theorem dX6_readWrite_83 : decode cX6_readWrite 83 = .ok (.ifCond .ne 5, 3) := by decide +kernel
theorem dX6_readWrite_86 : decode cX6_readWrite 86 = .ok (.iconst 0, 1) := by decide +kernel
theorem dX6_readWrite_87 : decode cX6_readWrite 87 = .ok (.ireturn, 1) := by decide +kernel
theorem dX6_readWrite_88 : decode cX6_readWrite 88 = .ok (.aload_n 0, 1) := by decide +kernel
theorem dX6_readWrite_89 : decode cX6_readWrite 89 = .ok (.getfield 33, 3) := by decide +kernel
theorem dX6_readWrite_92 : decode cX6_readWrite 92 = .ok (.aload_n 0, 1) := by decide +kernel
theorem dX6_readWrite_93 : decode cX6_readWrite 93 = .ok (.getfield 37, 3) := by decide +kernel
theorem dX6_readWrite_96 : decode cX6_readWrite 96 = .ok (.iconst 1, 1) := by decide +kernel
theorem dX6_readWrite_97 : decode cX6_readWrite 97 = .ok (.iconst (-1), 1) := by decide +kernel
theorem dX6_readWrite_98 : decode cX6_readWrite 98 = .ok (.aload_n 0, 1) := by decide +kernel
theorem dX6_readWrite_99 : decode cX6_readWrite 99 = .ok (.getfield 46, 3) := by decide +kernel
theorem dX6_readWrite_102 : decode cX6_readWrite 102 = .ok (.aload_n 0, 1) := by decide +kernel
theorem dX6_readWrite_103 : decode cX6_readWrite 103 = .ok (.getfield 49, 3) := by decide +kernel
theorem dX6_readWrite_106 : decode cX6_readWrite 106 = .ok (.iload_n 1, 1) := by decide +kernel
theorem dX6_readWrite_107 : decode cX6_readWrite 107 = .ok (.invokevirtual 185, 3) := by decide +kernel
theorem dX6_readWrite_110 : decode cX6_readWrite 110 = .ok (.aload_n 0, 1) := by decide +kernel
theorem dX6_readWrite_111 : decode cX6_readWrite 111 = .ok (.bipush 15, 2) := by decide +kernel
theorem dX6_readWrite_113 : decode cX6_readWrite 113 = .ok (.invokevirtual 121, 3) := by decide +kernel
theorem dX6_readWrite_116 : decode cX6_readWrite 116 = .ok (.ireturn, 1) := by decide +kernel
theorem dX6_readStatement_0 : decode cX6_readStatement 0 = .ok (.aload_n 0, 1) := by decide +kernel
theorem dX6_readStatement_1 : decode cX6_readStatement 1 = .ok (.getfield 21, 3) := by decide +kernel
theorem dX6_readStatement_4 : decode cX6_readStatement 4 = .ok (.getfield 60, 3) := by decide +kernel
theorem dX6_readStatement_7 : decode cX6_readStatement 7 = .ok (.tableswitch 73 6 12 #[51, 57, 63, 68, 73, 46, 41], 41) := by decide +kernel
theorem dX6_readStatement_48 : decode cX6_readStatement 48 = .ok (.aload_n 0, 1) := by decide +kernel
theorem dX6_readStatement_49 : decode cX6_readStatement 49 = .ok (.invokevirtual 133, 3) := by decide +kernel
theorem dX6_readStatement_52 : decode cX6_readStatement 52 = .ok (.ireturn, 1) := by decide +kernel
theorem dX6_readStatement_53 : decode cX6_readStatement 53 = .ok (.aload_n 0, 1) := by decide +kernel
theorem dX6_readStatement_54 : decode cX6_readStatement 54 = .ok (.invokevirtual 136, 3) := by decide +kernel
theorem dX6_readStatement_57 : decode cX6_readStatement 57 = .ok (.ireturn, 1) := by decide +kernel
theorem dX6_readStatement_58 : decode cX6_readStatement 58 = .ok (.aload_n 0, 1) := by decide +kernel
theorem dX6_readStatement_59 : decode cX6_readStatement 59 = .ok (.iconst 3, 1) := by decide +kernel
theorem dX6_readStatement_60 : decode cX6_readStatement 60 = .ok (.invokevirtual 139, 3) := by decide +kernel
theorem dX6_readStatement_63 : decode cX6_readStatement 63 = .ok (.ireturn, 1) := by decide +kernel
theorem dX6_readStatement_64 : decode cX6_readStatement 64 = .ok (.aload_n 0, 1) := by decide +kernel
theorem dX6_readStatement_65 : decode cX6_readStatement 65 = .ok (.iconst 4, 1) := by decide +kernel
theorem dX6_readStatement_66 : decode cX6_readStatement 66 = .ok (.invokevirtual 139, 3) := by decide +kernel
theorem dX6_readStatement_69 : decode cX6_readStatement 69 = .ok (.ireturn, 1) := by decide +kernel
theorem dX6_readStatement_70 : decode cX6_readStatement 70 = .ok (.aload_n 0, 1) := by decide +kernel
theorem dX6_readStatement_71 : decode cX6_readStatement 71 = .ok (.invokevirtual 142, 3) := by decide +kernel
theorem dX6_readStatement_74 : decode cX6_readStatement 74 = .ok (.ireturn, 1) := by decide +kernel
theorem dX6_readStatement_75 : decode cX6_readStatement 75 = .ok (.aload_n 0, 1) := by decide +kernel
theorem dX6_readStatement_76 : decode cX6_readStatement 76 = .ok (.invokevirtual 145, 3) := by decide +kernel
theorem dX6_readStatement_79 : decode cX6_readStatement 79 = .ok (.ireturn, 1) := by decide +kernel
theorem dX6_readStatement_80 : decode cX6_readStatement 80 = .ok (.aload_n 0, 1) := by decide +kernel
theorem dX6_readStatement_81 : decode cX6_readStatement 81 = .ok (.invokevirtual 76, 3) := by decide +kernel
theorem dX6_readStatement_84 : decode cX6_readStatement 84 = .ok (.ireturn, 1) := by decide +kernel
theorem dX6_readBlock_0 : decode cX6_readBlock 0 = .ok (.aload_n 0, 1) := by decide +kernel
theorem dX6_readBlock_1 : decode cX6_readBlock 1 = .ok (.bipush 20, 2) := by decide +kernel
theorem dX6_readBlock_3 : decode cX6_readBlock 3 = .ok (.invokevirtual 121, 3) := by decide +kernel
theorem dX6_readBlock_6 : decode cX6_readBlock 6 = .ok (.ifCond .ne 5, 3) := by decide +kernel
theorem dX6_readBlock_9 : decode cX6_readBlock 9 = .ok (.iconst 0, 1) := by decide +kernel
theorem dX6_readBlock_10 : decode cX6_readBlock 10 = .ok (.ireturn, 1) := by decide +kernel
theorem dX6_readBlock_11 : decode cX6_readBlock 11 = .ok (.iconst 0, 1) := by decide +kernel
theorem dX6_readBlock_12 : decode cX6_readBlock 12 = .ok (.istore_n 2, 1) := by decide +kernel
theorem dX6_readBlock_13 : decode cX6_readBlock 13 = .ok (.iload_n 2, 1) := by decide +kernel
theorem dX6_readBlock_14 : decode cX6_readBlock 14 = .ok (.sipush 1000, 3) := by decide +kernel
theorem dX6_readBlock_17 : decode cX6_readBlock 17 = .ok (.if_icmp .ge 30, 3) := by decide +kernel
theorem dX6_readBlock_20 : decode cX6_readBlock 20 = .ok (.aload_n 0, 1) := by decide +kernel
theorem dX6_readBlock_21 : decode cX6_readBlock 21 = .ok (.getfield 21, 3) := by decide +kernel
theorem dX6_readBlock_24 : decode cX6_readBlock 24 = .ok (.getfield 60, 3) := by decide +kernel
theorem dX6_readBlock_27 : decode cX6_readBlock 27 = .ok (.bipush 21, 2) := by decide +kernel
theorem dX6_readBlock_29 : decode cX6_readBlock 29 = .ok (.if_icmp .eq 18, 3) := by decide +kernel
theorem dX6_readBlock_32 : decode cX6_readBlock 32 = .ok (.aload_n 0, 1) := by decide +kernel
theorem dX6_readBlock_33 : decode cX6_readBlock 33 = .ok (.invokevirtual 130, 3) := by decide +kernel
theorem dX6_readBlock_36 : decode cX6_readBlock 36 = .ok (.ifCond .ne 5, 3) := by decide +kernel
theorem dX6_readBlock_39 : decode cX6_readBlock 39 = .ok (.iconst 0, 1) := by decide +kernel
theorem dX6_readBlock_40 : decode cX6_readBlock 40 = .ok (.ireturn, 1) := by decide +kernel
theorem dX6_readBlock_41 : decode cX6_readBlock 41 = .ok (.iinc 2 1, 3) := by decide +kernel
theorem dX6_readBlock_44 : decode cX6_readBlock 44 = .ok (.goto (-31), 3) := by decide +kernel
theorem dX6_readBlock_47 : decode cX6_readBlock 47 = .ok (.iload_n 1, 1) := by decide +kernel
theorem dX6_readBlock_48 : decode cX6_readBlock 48 = .ok (.iconst (-1), 1) := by decide +kernel
theorem dX6_readBlock_49 : decode cX6_readBlock 49 = .ok (.if_icmp .eq 24, 3) := by decide +kernel
theorem dX6_readBlock_52 : decode cX6_readBlock 52 = .ok (.aload_n 0, 1) := by decide +kernel
theorem dX6_readBlock_53 : decode cX6_readBlock 53 = .ok (.getfield 40, 3) := by decide +kernel
theorem dX6_readBlock_56 : decode cX6_readBlock 56 = .ok (.iload_n 1, 1) := by decide +kernel
theorem dX6_readBlock_57 : decode cX6_readBlock 57 = .ok (.if_icmp .eq 16, 3) := by decide +kernel
theorem dX6_readBlock_60 : decode cX6_readBlock 60 = .ok (.aload_n 0, 1) := by decide +kernel
theorem dX6_readBlock_61 : decode cX6_readBlock 61 = .ok (.iconst 5, 1) := by decide +kernel
theorem dX6_readBlock_62 : decode cX6_readBlock 62 = .ok (.aload_n 0, 1) := by decide +kernel
theorem dX6_readBlock_63 : decode cX6_readBlock 63 = .ok (.getfield 21, 3) := by decide +kernel
theorem dX6_readBlock_66 : decode cX6_readBlock 66 = .ok (.getfield 82, 3) := by decide +kernel
theorem dX6_readBlock_69 : decode cX6_readBlock 69 = .ok (.invokevirtual 85, 3) := by decide +kernel
theorem dX6_readBlock_72 : decode cX6_readBlock 72 = .ok (.ireturn, 1) := by decide +kernel
theorem dX6_readBlock_73 : decode cX6_readBlock 73 = .ok (.aload_n 0, 1) := by decide +kernel
theorem dX6_readBlock_74 : decode cX6_readBlock 74 = .ok (.bipush 21, 2) := by decide +kernel
theorem dX6_readBlock_76 : decode cX6_readBlock 76 = .ok (.invokevirtual 121, 3) := by decide +kernel
theorem dX6_readBlock_79 : decode cX6_readBlock 79 = .ok (.ireturn, 1) := by decide +kernel
theorem dX6_readDeclaration_0 : decode cX6_readDeclaration 0 = .ok (.aload_n 0, 1) := by decide +kernel
theorem dX6_readDeclaration_1 : decode cX6_readDeclaration 1 = .ok (.getfield 21, 3) := by decide +kernel
theorem dX6_readDeclaration_4 : decode cX6_readDeclaration 4 = .ok (.getfield 60, 3) := by decide +kernel
theorem dX6_readDeclaration_7 : decode cX6_readDeclaration 7 = .ok (.bipush 11, 2) := by decide +kernel
theorem dX6_readDeclaration_9 : decode cX6_readDeclaration 9 = .ok (.if_icmp .eq 8, 3) := by decide +kernel
theorem dX6_readDeclaration_12 : decode cX6_readDeclaration 12 = .ok (.aload_n 0, 1) := by decide +kernel
theorem dX6_readDeclaration_13 : decode cX6_readDeclaration 13 = .ok (.invokevirtual 76, 3) := by decide +kernel
theorem dX6_readDeclaration_16 : decode cX6_readDeclaration 16 = .ok (.ireturn, 1) := by decide +kernel
theorem dX6_readDeclaration_17 : decode cX6_readDeclaration 17 = .ok (.iconst 0, 1) := by decide +kernel
theorem dX6_readDeclaration_18 : decode cX6_readDeclaration 18 = .ok (.istore_n 2, 1) := by decide +kernel
theorem dX6_readDeclaration_19 : decode cX6_readDeclaration 19 = .ok (.iload_n 2, 1) := by decide +kernel
theorem dX6_readDeclaration_20 : decode cX6_readDeclaration 20 = .ok (.sipush 1000, 3) := by decide +kernel
theorem dX6_readDeclaration_23 : decode cX6_readDeclaration 23 = .ok (.if_icmp .ge 99, 3) := by decide +kernel
theorem dX6_readDeclaration_26 : decode cX6_readDeclaration 26 = .ok (.aload_n 0, 1) := by decide +kernel
theorem dX6_readDeclaration_27 : decode cX6_readDeclaration 27 = .ok (.getfield 21, 3) := by decide +kernel
theorem dX6_readDeclaration_30 : decode cX6_readDeclaration 30 = .ok (.getfield 60, 3) := by decide +kernel
theorem dX6_readDeclaration_33 : decode cX6_readDeclaration 33 = .ok (.bipush 11, 2) := by decide +kernel
theorem dX6_readDeclaration_35 : decode cX6_readDeclaration 35 = .ok (.if_icmp .ne 87, 3) := by decide +kernel
theorem dX6_readDeclaration_38 : decode cX6_readDeclaration 38 = .ok (.aload_n 0, 1) := by decide +kernel
theorem dX6_readDeclaration_39 : decode cX6_readDeclaration 39 = .ok (.getfield 21, 3) := by decide +kernel
theorem dX6_readDeclaration_42 : decode cX6_readDeclaration 42 = .ok (.getfield 111, 3) := by decide +kernel
theorem dX6_readDeclaration_45 : decode cX6_readDeclaration 45 = .ok (.bipush 7, 2) := by decide +kernel
theorem dX6_readDeclaration_47 : decode cX6_readDeclaration 47 = .ok (.iand, 1) := by decide +kernel
theorem dX6_readDeclaration_48 : decode cX6_readDeclaration 48 = .ok (.istore_n 3, 1) := by decide +kernel
theorem dX6_readDeclaration_49 : decode cX6_readDeclaration 49 = .ok (.aload_n 0, 1) := by decide +kernel
theorem dX6_readDeclaration_50 : decode cX6_readDeclaration 50 = .ok (.getfield 29, 3) := by decide +kernel
theorem dX6_readDeclaration_53 : decode cX6_readDeclaration 53 = .ok (.getfield 114, 3) := by decide +kernel
theorem dX6_readDeclaration_56 : decode cX6_readDeclaration 56 = .ok (.iload_n 3, 1) := by decide +kernel
theorem dX6_readDeclaration_57 : decode cX6_readDeclaration 57 = .ok (.iaload, 1) := by decide +kernel
theorem dX6_readDeclaration_58 : decode cX6_readDeclaration 58 = .ok (.iconst (-1), 1) := by decide +kernel
theorem dX6_readDeclaration_59 : decode cX6_readDeclaration 59 = .ok (.if_icmp .eq 16, 3) := by decide +kernel
theorem dX6_readDeclaration_62 : decode cX6_readDeclaration 62 = .ok (.aload_n 0, 1) := by decide +kernel
theorem dX6_readDeclaration_63 : decode cX6_readDeclaration 63 = .ok (.iconst 2, 1) := by decide +kernel
theorem dX6_readDeclaration_64 : decode cX6_readDeclaration 64 = .ok (.aload_n 0, 1) := by decide +kernel
theorem dX6_readDeclaration_65 : decode cX6_readDeclaration 65 = .ok (.getfield 21, 3) := by decide +kernel
theorem dX6_readDeclaration_68 : decode cX6_readDeclaration 68 = .ok (.getfield 82, 3) := by decide +kernel
theorem dX6_readDeclaration_71 : decode cX6_readDeclaration 71 = .ok (.invokevirtual 85, 3) := by decide +kernel
theorem dX6_readDeclaration_74 : decode cX6_readDeclaration 74 = .ok (.ireturn, 1) := by decide +kernel
theorem dX6_readDeclaration_75 : decode cX6_readDeclaration 75 = .ok (.aload_n 0, 1) := by decide +kernel
theorem dX6_readDeclaration_76 : decode cX6_readDeclaration 76 = .ok (.getfield 29, 3) := by decide +kernel
theorem dX6_readDeclaration_79 : decode cX6_readDeclaration 79 = .ok (.invokevirtual 117, 3) := by decide +kernel
theorem dX6_readDeclaration_82 : decode cX6_readDeclaration 82 = .ok (.iconst 5, 1) := by decide +kernel
theorem dX6_readDeclaration_83 : decode cX6_readDeclaration 83 = .ok (.if_icmp .lt 16, 3) := by decide +kernel
theorem dX6_readDeclaration_86 : decode cX6_readDeclaration 86 = .ok (.aload_n 0, 1) := by decide +kernel
theorem dX6_readDeclaration_87 : decode cX6_readDeclaration 87 = .ok (.iconst 4, 1) := by decide +kernel
theorem dX6_readDeclaration_88 : decode cX6_readDeclaration 88 = .ok (.aload_n 0, 1) := by decide +kernel
theorem dX6_readDeclaration_89 : decode cX6_readDeclaration 89 = .ok (.getfield 21, 3) := by decide +kernel
theorem dX6_readDeclaration_92 : decode cX6_readDeclaration 92 = .ok (.getfield 82, 3) := by decide +kernel
theorem dX6_readDeclaration_95 : decode cX6_readDeclaration 95 = .ok (.invokevirtual 85, 3) := by decide +kernel
theorem dX6_readDeclaration_98 : decode cX6_readDeclaration 98 = .ok (.ireturn, 1) := by decide +kernel
theorem dX6_readDeclaration_99 : decode cX6_readDeclaration 99 = .ok (.aload_n 0, 1) := by decide +kernel
theorem dX6_readDeclaration_100 : decode cX6_readDeclaration 100 = .ok (.getfield 29, 3) := by decide +kernel
theorem dX6_readDeclaration_103 : decode cX6_readDeclaration 103 = .ok (.getfield 114, 3) := by decide +kernel
theorem dX6_readDeclaration_106 : decode cX6_readDeclaration 106 = .ok (.iload_n 3, 1) := by decide +kernel
theorem dX6_readDeclaration_107 : decode cX6_readDeclaration 107 = .ok (.iload_n 1, 1) := by decide +kernel
theorem dX6_readDeclaration_108 : decode cX6_readDeclaration 108 = .ok (.iastore, 1) := by decide +kernel
theorem dX6_readDeclaration_109 : decode cX6_readDeclaration 109 = .ok (.aload_n 0, 1) := by decide +kernel
theorem dX6_readDeclaration_110 : decode cX6_readDeclaration 110 = .ok (.getfield 21, 3) := by decide +kernel
theorem dX6_readDeclaration_113 : decode cX6_readDeclaration 113 = .ok (.invokevirtual 101, 3) := by decide +kernel
theorem dX6_readDeclaration_116 : decode cX6_readDeclaration 116 = .ok (.iinc 2 1, 3) := by decide +kernel
theorem dX6_readDeclaration_119 : decode cX6_readDeclaration 119 = .ok (.goto (-100), 3) := by decide +kernel
theorem dX6_readDeclaration_122 : decode cX6_readDeclaration 122 = .ok (.aload_n 0, 1) := by decide +kernel
theorem dX6_readDeclaration_123 : decode cX6_readDeclaration 123 = .ok (.bipush 15, 2) := by decide +kernel
theorem dX6_readDeclaration_125 : decode cX6_readDeclaration 125 = .ok (.invokevirtual 121, 3) := by decide +kernel
theorem dX6_readDeclaration_128 : decode cX6_readDeclaration 128 = .ok (.ireturn, 1) := by decide +kernel
theorem dX6_readDeclarations_0 : decode cX6_readDeclarations 0 = .ok (.iconst 0, 1) := by decide +kernel
theorem dX6_readDeclarations_1 : decode cX6_readDeclarations 1 = .ok (.istore_n 1, 1) := by decide +kernel
theorem dX6_readDeclarations_2 : decode cX6_readDeclarations 2 = .ok (.iload_n 1, 1) := by decide +kernel
theorem dX6_readDeclarations_3 : decode cX6_readDeclarations 3 = .ok (.sipush 1000, 3) := by decide +kernel
theorem dX6_readDeclarations_6 : decode cX6_readDeclarations 6 = .ok (.if_icmp .ge 44, 3) := by decide +kernel
theorem dX6_readDeclarations_9 : decode cX6_readDeclarations 9 = .ok (.aload_n 0, 1) := by decide +kernel
theorem dX6_readDeclarations_10 : decode cX6_readDeclarations 10 = .ok (.getfield 21, 3) := by decide +kernel
theorem dX6_readDeclarations_13 : decode cX6_readDeclarations 13 = .ok (.getfield 60, 3) := by decide +kernel
theorem dX6_readDeclarations_16 : decode cX6_readDeclarations 16 = .ok (.invokestatic 104, 3) := by decide +kernel
theorem dX6_readDeclarations_19 : decode cX6_readDeclarations 19 = .ok (.istore_n 2, 1) := by decide +kernel
theorem dX6_readDeclarations_20 : decode cX6_readDeclarations 20 = .ok (.iload_n 2, 1) := by decide +kernel
theorem dX6_readDeclarations_21 : decode cX6_readDeclarations 21 = .ok (.iconst (-1), 1) := by decide +kernel
theorem dX6_readDeclarations_22 : decode cX6_readDeclarations 22 = .ok (.if_icmp .ne 5, 3) := by decide +kernel
theorem dX6_readDeclarations_25 : decode cX6_readDeclarations 25 = .ok (.iconst 1, 1) := by decide +kernel
theorem dX6_readDeclarations_26 : decode cX6_readDeclarations 26 = .ok (.ireturn, 1) := by decide +kernel
theorem dX6_readDeclarations_27 : decode cX6_readDeclarations 27 = .ok (.aload_n 0, 1) := by decide +kernel
theorem dX6_readDeclarations_28 : decode cX6_readDeclarations 28 = .ok (.getfield 21, 3) := by decide +kernel
theorem dX6_readDeclarations_31 : decode cX6_readDeclarations 31 = .ok (.invokevirtual 101, 3) := by decide +kernel
theorem dX6_readDeclarations_34 : decode cX6_readDeclarations 34 = .ok (.aload_n 0, 1) := by decide +kernel
theorem dX6_readDeclarations_35 : decode cX6_readDeclarations 35 = .ok (.iload_n 2, 1) := by decide +kernel
theorem dX6_readDeclarations_36 : decode cX6_readDeclarations 36 = .ok (.invokevirtual 108, 3) := by decide +kernel
theorem dX6_readDeclarations_39 : decode cX6_readDeclarations 39 = .ok (.ifCond .ne 5, 3) := by decide +kernel
theorem dX6_readDeclarations_42 : decode cX6_readDeclarations 42 = .ok (.iconst 0, 1) := by decide +kernel
theorem dX6_readDeclarations_43 : decode cX6_readDeclarations 43 = .ok (.ireturn, 1) := by decide +kernel
theorem dX6_readDeclarations_44 : decode cX6_readDeclarations 44 = .ok (.iinc 1 1, 3) := by decide +kernel
theorem dX6_readDeclarations_47 : decode cX6_readDeclarations 47 = .ok (.goto (-45), 3) := by decide +kernel
theorem dX6_readDeclarations_50 : decode cX6_readDeclarations 50 = .ok (.iconst 1, 1) := by decide +kernel
theorem dX6_readDeclarations_51 : decode cX6_readDeclarations 51 = .ok (.ireturn, 1) := by decide +kernel
theorem dX6_read_0 : decode cX6_read 0 = .ok (.aload_n 0, 1) := by decide +kernel
theorem dX6_read_1 : decode cX6_read 1 = .ok (.aload_n 1, 1) := by decide +kernel
theorem dX6_read_2 : decode cX6_read 2 = .ok (.iload_n 2, 1) := by decide +kernel
theorem dX6_read_3 : decode cX6_read 3 = .ok (.invokevirtual 52, 3) := by decide +kernel
theorem dX6_read_6 : decode cX6_read 6 = .ok (.aload_n 0, 1) := by decide +kernel
theorem dX6_read_7 : decode cX6_read 7 = .ok (.invokevirtual 56, 3) := by decide +kernel
theorem dX6_read_10 : decode cX6_read 10 = .ok (.istore_n 3, 1) := by decide +kernel
theorem dX6_read_11 : decode cX6_read 11 = .ok (.iconst 0, 1) := by decide +kernel
theorem dX6_read_12 : decode cX6_read 12 = .ok (.istore 4, 2) := by decide +kernel
theorem dX6_read_14 : decode cX6_read 14 = .ok (.iload 4, 2) := by decide +kernel
theorem dX6_read_16 : decode cX6_read 16 = .ok (.iconst 4, 1) := by decide +kernel
theorem dX6_read_17 : decode cX6_read 17 = .ok (.if_icmp .gt 59, 3) := by decide +kernel
theorem dX6_read_20 : decode cX6_read 20 = .ok (.iload_n 3, 1) := by decide +kernel
theorem dX6_read_21 : decode cX6_read 21 = .ok (.ifCond .eq 55, 3) := by decide +kernel
theorem dX6_read_24 : decode cX6_read 24 = .ok (.aload_n 0, 1) := by decide +kernel
theorem dX6_read_25 : decode cX6_read 25 = .ok (.getfield 21, 3) := by decide +kernel
theorem dX6_read_28 : decode cX6_read 28 = .ok (.getfield 60, 3) := by decide +kernel
theorem dX6_read_31 : decode cX6_read 31 = .ok (.iconst 5, 1) := by decide +kernel
theorem dX6_read_32 : decode cX6_read 32 = .ok (.if_icmp .ne 44, 3) := by decide +kernel
theorem dX6_read_35 : decode cX6_read 35 = .ok (.aload_n 0, 1) := by decide +kernel
theorem dX6_read_36 : decode cX6_read 36 = .ok (.invokevirtual 63, 3) := by decide +kernel
theorem dX6_read_39 : decode cX6_read 39 = .ok (.ifCond .eq 15, 3) := by decide +kernel
theorem dX6_read_42 : decode cX6_read 42 = .ok (.aload_n 0, 1) := by decide +kernel
theorem dX6_read_43 : decode cX6_read 43 = .ok (.iconst (-1), 1) := by decide +kernel
theorem dX6_read_44 : decode cX6_read 44 = .ok (.invokevirtual 66, 3) := by decide +kernel
theorem dX6_read_47 : decode cX6_read 47 = .ok (.ifCond .eq 7, 3) := by decide +kernel
theorem dX6_read_50 : decode cX6_read 50 = .ok (.iconst 1, 1) := by decide +kernel
theorem dX6_read_51 : decode cX6_read 51 = .ok (.goto 4, 3) := by decide +kernel
theorem dX6_read_54 : decode cX6_read 54 = .ok (.iconst 0, 1) := by decide +kernel
theorem dX6_read_55 : decode cX6_read 55 = .ok (.istore_n 3, 1) := by decide +kernel
theorem dX6_read_56 : decode cX6_read 56 = .ok (.aload_n 0, 1) := by decide +kernel
theorem dX6_read_57 : decode cX6_read 57 = .ok (.getfield 33, 3) := by decide +kernel
theorem dX6_read_60 : decode cX6_read 60 = .ok (.bipush 10, 2) := by decide +kernel
theorem dX6_read_62 : decode cX6_read 62 = .ok (.iconst (-1), 1) := by decide +kernel
theorem dX6_read_63 : decode cX6_read 63 = .ok (.iconst (-1), 1) := by decide +kernel
theorem dX6_read_64 : decode cX6_read 64 = .ok (.iconst (-1), 1) := by decide +kernel
theorem dX6_read_65 : decode cX6_read 65 = .ok (.iconst (-1), 1) := by decide +kernel
theorem dX6_read_66 : decode cX6_read 66 = .ok (.invokevirtual 70, 3) := by decide +kernel
theorem dX6_read_69 : decode cX6_read 69 = .ok (.pop, 1) := by decide +kernel
theorem dX6_read_70 : decode cX6_read 70 = .ok (.iinc 4 1, 3) := by decide +kernel
theorem dX6_read_73 : decode cX6_read 73 = .ok (.goto (-59), 3) := by decide +kernel
theorem dX6_read_76 : decode cX6_read 76 = .ok (.iload_n 3, 1) := by decide +kernel
theorem dX6_read_77 : decode cX6_read 77 = .ok (.ifCond .eq 21, 3) := by decide +kernel
theorem dX6_read_80 : decode cX6_read 80 = .ok (.aload_n 0, 1) := by decide +kernel
theorem dX6_read_81 : decode cX6_read 81 = .ok (.getfield 21, 3) := by decide +kernel
theorem dX6_read_84 : decode cX6_read 84 = .ok (.getfield 60, 3) := by decide +kernel
theorem dX6_read_87 : decode cX6_read 87 = .ok (.ifCond .eq 11, 3) := by decide +kernel
theorem dX6_read_90 : decode cX6_read 90 = .ok (.aload_n 0, 1) := by decide +kernel
theorem dX6_read_91 : decode cX6_read 91 = .ok (.invokevirtual 76, 3) := by decide +kernel
theorem dX6_read_94 : decode cX6_read 94 = .ok (.pop, 1) := by decide +kernel
theorem dX6_read_95 : decode cX6_read 95 = .ok (.goto 31, 3) := by decide +kernel
theorem dX6_read_98 : decode cX6_read 98 = .ok (.iload_n 3, 1) := by decide +kernel
theorem dX6_read_99 : decode cX6_read 99 = .ok (.ifCond .eq 27, 3) := by decide +kernel
theorem dX6_read_102 : decode cX6_read 102 = .ok (.aload_n 0, 1) := by decide +kernel
theorem dX6_read_103 : decode cX6_read 103 = .ok (.getfield 33, 3) := by decide +kernel
theorem dX6_read_106 : decode cX6_read 106 = .ok (.getfield 79, 3) := by decide +kernel
theorem dX6_read_109 : decode cX6_read 109 = .ok (.ifCond .ne 17, 3) := by decide +kernel
theorem dX6_read_112 : decode cX6_read 112 = .ok (.aload_n 0, 1) := by decide +kernel
theorem dX6_read_113 : decode cX6_read 113 = .ok (.bipush 7, 2) := by decide +kernel
theorem dX6_read_115 : decode cX6_read 115 = .ok (.aload_n 0, 1) := by decide +kernel
theorem dX6_read_116 : decode cX6_read 116 = .ok (.getfield 21, 3) := by decide +kernel
theorem dX6_read_119 : decode cX6_read 119 = .ok (.getfield 82, 3) := by decide +kernel
theorem dX6_read_122 : decode cX6_read 122 = .ok (.invokevirtual 85, 3) := by decide +kernel
theorem dX6_read_125 : decode cX6_read 125 = .ok (.pop, 1) := by decide +kernel
theorem dX6_read_126 : decode cX6_read 126 = .ok (.aload_n 0, 1) := by decide +kernel
theorem dX6_read_127 : decode cX6_read 127 = .ok (.getfield 29, 3) := by decide +kernel
theorem dX6_read_130 : decode cX6_read 130 = .ok (.areturn, 1) := by decide +kernel
theorem kn_X6_init : Kn yX6_init cX6_init 1 none 0 := ⟨wm_124, wm_125, by decide +kernel, by decide⟩
theorem kn_X6_begin : Kn yX6_begin cX6_begin 3 none 2 := ⟨wm_1030, wm_125, by decide +kernel, by decide⟩
theorem kn_X6_refuse : Kn yX6_refuse cX6_refuse 3 (some .boolean) 2 := ⟨wm_1038, wm_125, by decide +kernel, by decide⟩
theorem kn_X6_checkCell : Kn yX6_checkCell cX6_checkCell 1 (some .boolean) 0 := ⟨wm_1039, wm_125, by decide +kernel, by decide⟩
theorem kn_X6_checkLocal : Kn yX6_checkLocal cX6_checkLocal 2 (some .boolean) 0 := ⟨wm_1046, wm_125, by decide +kernel, by decide⟩
theorem kn_X6_checkMaker : Kn yX6_checkMaker cX6_checkMaker 2 (some .boolean) 0 := ⟨wm_1048, wm_125, by decide +kernel, by decide⟩
theorem kn_X6_countStatement : Kn yX6_countStatement cX6_countStatement 1 (some .boolean) 0 := ⟨wm_1051, wm_125, by decide +kernel, by decide⟩
theorem kn_X6_kindOfWord : Kn yX6_kindOfWord cX6_kindOfWord 1 (some .int) 1 := ⟨wm_1053, wm_125, by decide +kernel, by decide⟩
theorem kn_X6_mayAct : Kn yX6_mayAct cX6_mayAct 1 (some .boolean) 0 := ⟨wm_1054, wm_125, by decide +kernel, by decide⟩
theorem kn_X6_openThread : Kn yX6_openThread cX6_openThread 1 (some .boolean) 0 := ⟨wm_1056, wm_125, by decide +kernel, by decide⟩
theorem kn_X6_pass : Kn yX6_pass cX6_pass 2 (some .boolean) 1 := ⟨wm_1061, wm_125, by decide +kernel, by decide⟩
theorem kn_X6_readDone : Kn yX6_readDone cX6_readDone 1 (some .boolean) 0 := ⟨wm_1063, wm_125, by decide +kernel, by decide⟩
theorem kn_X6_readBranches : Kn yX6_readBranches cX6_readBranches 5 (some .boolean) 1 := ⟨wm_1079, wm_125, by decide +kernel, by decide⟩
theorem kn_X6_refuseToken : Kn yX6_refuseToken cX6_refuseToken 1 (some .boolean) 0 := ⟨wm_1085, wm_125, by decide +kernel, by decide⟩
theorem kn_X6_readIf : Kn yX6_readIf cX6_readIf 4 (some .boolean) 0 := ⟨wm_1086, wm_125, by decide +kernel, by decide⟩
theorem kn_X6_readPlus : Kn yX6_readPlus cX6_readPlus 1 (some .boolean) 0 := ⟨wm_1096, wm_125, by decide +kernel, by decide⟩
theorem kn_X6_readRead : Kn yX6_readRead cX6_readRead 5 (some .boolean) 3 := ⟨wm_1097, wm_125, by decide +kernel, by decide⟩
theorem kn_X6_readTerm : Kn yX6_readTerm cX6_readTerm 1 (some .boolean) 0 := ⟨wm_1101, wm_125, by decide +kernel, by decide⟩
theorem kn_X6_readLocalStatement : Kn yX6_readLocalStatement cX6_readLocalStatement 2 (some .boolean) 0 := ⟨wm_1102, wm_125, by decide +kernel, by decide⟩
theorem kn_X6_readMonitorStatement : Kn yX6_readMonitorStatement cX6_readMonitorStatement 5 (some .boolean) 1 := ⟨wm_1112, wm_125, by decide +kernel, by decide⟩
theorem kn_X6_readWrite : Kn yX6_readWrite cX6_readWrite 2 (some .boolean) 0 := ⟨wm_1114, wm_125, by decide +kernel, by decide⟩
theorem kn_X6_readStatement : Kn yX6_readStatement cX6_readStatement 1 (some .boolean) 0 := ⟨wm_1115, wm_125, by decide +kernel, by decide⟩
theorem kn_X6_readBlock : Kn yX6_readBlock cX6_readBlock 3 (some .boolean) 1 := ⟨wm_1131, wm_125, by decide +kernel, by decide⟩
theorem kn_X6_readDeclaration : Kn yX6_readDeclaration cX6_readDeclaration 4 (some .boolean) 1 := ⟨wm_1135, wm_125, by decide +kernel, by decide⟩
theorem kn_X6_readDeclarations : Kn yX6_readDeclarations cX6_readDeclarations 3 (some .boolean) 0 := ⟨wm_1139, wm_125, by decide +kernel, by decide⟩
theorem kn_X6_read : Kn yX6_read cX6_read 5 (some (.object "LitmusHouse$Program")) 2 := ⟨wm_1145, wm_125, by decide +kernel, by decide⟩
/-! ===== LitmusHouse$Reader.<init>()V ===== -/
def b_X6_init_0 (a0 : Nat) (h : AH) : Option (AH) :=
  (ok_h a0).bind fun x1 => (p_i h a0 6 0 (0 : Int32)).bind fun h2 => (p_i h2 a0 6 1 (-1 : Int32)).bind fun h3 => (ok_h (hp_n h3)).bind fun x5 => (f_X7_init (hp_n h3) (st_n h3 7 9)).bind fun h6 => (p_r h6 a0 6 2 (hp_n h3)).bind fun h7 => (n_a h7 100 (8 : Int32)).bind fun h8 => (p_r h8 a0 6 3 (hp_n h7)).bind fun h9 => (p_r h9 a0 6 4 0).bind fun h10 => (p_r h10 a0 6 5 0).bind fun h11 => (p_i h11 a0 6 6 (0 : Int32)).bind fun h12 => (p_i h12 a0 6 7 (0 : Int32)).bind fun h13 => (p_i h13 a0 6 8 (0 : Int32)).bind fun h14 => (p_i h14 a0 6 9 (-1 : Int32)).bind fun h15 => (p_i h15 a0 6 10 (-1 : Int32)).bind fun h16 => some h16
set_option maxHeartbeats 4000000 in
set_option maxRecDepth 100000 in
theorem q_X6_init_0 {a0 : Nat} {h hE : AH} (hf : b_X6_init_0 a0 h = some hE) : JD cX6_init 1 RX6 "<init>" none (3) 0 [(0, .inr (.inr (a0)))] [] h hE none := by
  unfold b_X6_init_0 at hf
  obtain ⟨x1, e1, hf⟩ := bnd hf
  obtain ⟨h2, e2, hf⟩ := bnd hf
  have m2 := nn_pi e2
  obtain ⟨h3, e3, hf⟩ := bnd hf
  have m3 := nn_pi e3
  have m4 := nn_o (h := h3) (c := 7) (n := 9)
  obtain ⟨x5, e5, hf⟩ := bnd hf
  obtain ⟨h6, e6, hf⟩ := bnd hf
  have k6 := c_X7_init e6
  have m6 := (k6 default_g).1
  obtain ⟨h7, e7, hf⟩ := bnd hf
  have m7 := nn_pr e7
  obtain ⟨h8, e8, hf⟩ := bnd hf
  have m8 := nn_n e8
  obtain ⟨h9, e9, hf⟩ := bnd hf
  have m9 := nn_pr e9
  obtain ⟨h10, e10, hf⟩ := bnd hf
  have m10 := nn_pr e10
  obtain ⟨h11, e11, hf⟩ := bnd hf
  have m11 := nn_pr e11
  obtain ⟨h12, e12, hf⟩ := bnd hf
  have m12 := nn_pi e12
  obtain ⟨h13, e13, hf⟩ := bnd hf
  have m13 := nn_pi e13
  obtain ⟨h14, e14, hf⟩ := bnd hf
  have m14 := nn_pi e14
  obtain ⟨h15, e15, hf⟩ := bnd hf
  have m15 := nn_pi e15
  obtain ⟨h16, e16, hf⟩ := bnd hf
  have m16 := nn_pi e16
  have hh := Option.some.inj hf
  subst hh
  have mE : hp_n h16 ≤ hp_n h16 ∧ hp_s h16 ≤ hp_s h16 := ⟨Nat.le_refl _, Nat.le_refl _⟩
  refine ⟨by omega, fun X g K ok nmx lev hK en => ?_⟩
  refine tj_aload_n ok 0 dX6_init_0 rfl rfl ?_
  refine tj_objInit (rest := ([] : List TV).map (vl g)) ok lev (by omega) (of_if e1).1 wm_126 wm_75 wm_obj (rs_ok (Nat.le_of_ble_eq_true rfl)) dX6_init_1 ?_
  refine tj_aload_n ok 0 dX6_init_4 rfl rfl ?_
  refine tj_iconst (v := 0) ok dX6_init_5 (by decide) ?_
  refine tj_putI (k := 0) ok fcX6 (by decide) wm_127 rfl (Or.inl rfl) rfl dX6_init_6 e2 ?_
  refine tj_aload_n ok 0 dX6_init_9 rfl rfl ?_
  refine tj_iconst (v := -1) ok dX6_init_10 (by decide) ?_
  refine tj_putI (k := 1) ok fcX6 (by decide) wm_128 rfl (Or.inl rfl) rfl dX6_init_11 e3 ?_
  refine tj_aload_n ok 0 dX6_init_14 rfl rfl ?_
  refine tj_new ok fcX7 wm_129 wm_130 wm_113 dX6_init_15 nfX7 ndX7 (CaX.of en (by omega)) ?_
  refine tj_dupa ok dX6_init_18 ?_
  refine tj_callN (rest := ([.inr (.inr (hp_n h3)), .inr (.inr (a0))] : List TV).map (vl g)) (as := []) (i := 1) ok lev (by omega) (of_if e5).1 (k6 g) (CaX.of en (by omega)) kn_X7_init rfl rfl wm_131 (rs_ok (Nat.le_of_ble_eq_true rfl)) rfl dX6_init_19 ?_
  refine tj_putR (k := 2) ok fcX6 (by decide) wm_132 rfl (Or.inr ⟨nmx, rfl⟩) (Or.inl ⟨_, rfl⟩) dX6_init_22 e7 ?_
  refine tj_aload_n ok 0 dX6_init_25 rfl rfl ?_
  refine tj_bipush (v := 8) ok dX6_init_26 (by decide) ?_
  refine tj_newI ok wm_39 dX6_init_28 e8 (CaX.of en (by omega)) ?_
  refine tj_putR (k := 3) ok fcX6 (by decide) wm_133 rfl (Or.inr ⟨nmx, rfl⟩) (Or.inr ⟨_, rfl⟩) dX6_init_30 e9 ?_
  refine tj_aload_n ok 0 dX6_init_33 rfl rfl ?_
  refine tj_null ok dX6_init_34 ?_
  refine tj_putR (k := 4) ok fcX6 (by decide) wm_134 rfl (Or.inl rfl) (Or.inl ⟨_, rfl⟩) dX6_init_35 e10 ?_
  refine tj_aload_n ok 0 dX6_init_38 rfl rfl ?_
  refine tj_null ok dX6_init_39 ?_
  refine tj_putR (k := 5) ok fcX6 (by decide) wm_135 rfl (Or.inl rfl) (Or.inl ⟨_, rfl⟩) dX6_init_40 e11 ?_
  refine tj_aload_n ok 0 dX6_init_43 rfl rfl ?_
  refine tj_iconst (v := 0) ok dX6_init_44 (by decide) ?_
  refine tj_putI (k := 6) ok fcX6 (by decide) wm_136 rfl (Or.inl rfl) rfl dX6_init_45 e12 ?_
  refine tj_aload_n ok 0 dX6_init_48 rfl rfl ?_
  refine tj_iconst (v := 0) ok dX6_init_49 (by decide) ?_
  refine tj_putI (k := 7) ok fcX6 (by decide) wm_137 rfl (Or.inl rfl) rfl dX6_init_50 e13 ?_
  refine tj_aload_n ok 0 dX6_init_53 rfl rfl ?_
  refine tj_iconst (v := 0) ok dX6_init_54 (by decide) ?_
  refine tj_putI (k := 8) ok fcX6 (by decide) wm_138 rfl (Or.inl rfl) rfl dX6_init_55 e14 ?_
  refine tj_aload_n ok 0 dX6_init_58 rfl rfl ?_
  refine tj_iconst (v := -1) ok dX6_init_59 (by decide) ?_
  refine tj_putI (k := 9) ok fcX6 (by decide) wm_139 rfl (Or.inl rfl) rfl dX6_init_60 e15 ?_
  refine tj_aload_n ok 0 dX6_init_63 rfl rfl ?_
  refine tj_iconst (v := -1) ok dX6_init_64 (by decide) ?_
  refine tj_putI (k := 10) ok fcX6 (by decide) wm_140 rfl (Or.inl rfl) rfl dX6_init_65 e16 ?_
  exact tj_return ok en dX6_init_68
def f_X6_init (a0 : Nat) (h : AH) : Option (AH) := b_X6_init_0  a0 h
theorem c_X6_init {a0 : Nat} {h hE : AH} (hf : f_X6_init a0 h = some hE) : ∀ g : GT, CM g (3) yX6_init cX6_init 1 none h [.inr (.inr (a0))] hE none :=
  CM.ofJ (by decide) (by show _ ≤ 1; exact Nat.le_of_ble_eq_true rfl) (q_X6_init_0 hf)
/-! ===== LitmusHouse$Reader.begin([II)V ===== -/
def b_X6_begin_0 (a0 : Nat) (a1 : Nat) (a2 : Int32) (h : AH) : Option (AH) :=
  (p_i h a0 6 0 (0 : Int32)).bind fun h1 => (p_i h1 a0 6 1 (-1 : Int32)).bind fun h2 => (ok_h (hp_n h2)).bind fun x4 => (f_X0_init (hp_n h2) (st_n h2 0 18)).bind fun h5 => (p_r h5 a0 6 5 (hp_n h2)).bind fun h6 => (g_r (st_n h6 5 10) a0 6 5).bind fun x8 => (ok_h (hp_n h6)).bind fun x9 => (f_X5_init (hp_n h6) x8 (st_n h6 5 10)).bind fun h10 => (p_r h10 a0 6 4 (hp_n h6)).bind fun h11 => (p_i h11 a0 6 8 (0 : Int32)).bind fun h12 => (g_r h12 a0 6 3).bind fun x13 => (f_J7_fill_53178 x13 (-1 : Int32) h12).bind fun h14 => (g_r h14 a0 6 2).bind fun x15 => (ok_v h14 x15 7).bind fun x16 => (f_X7_begin x15 a1 a2 h14).bind fun h17 => some h17
set_option maxHeartbeats 4000000 in
set_option maxRecDepth 100000 in
theorem q_X6_begin_0 {a0 : Nat} {a1 : Nat} {a2 : Int32} {h hE : AH} (hf : b_X6_begin_0 a0 a1 a2 h = some hE) : JD cX6_begin 3 RX6 "begin" none (12) 0 [(0, .inr (.inr (a0))), (1, .inr (.inr (a1))), (2, .inl (a2))] [] h hE none := by
  unfold b_X6_begin_0 at hf
  obtain ⟨h1, e1, hf⟩ := bnd hf
  have m1 := nn_pi e1
  obtain ⟨h2, e2, hf⟩ := bnd hf
  have m2 := nn_pi e2
  have m3 := nn_o (h := h2) (c := 0) (n := 18)
  obtain ⟨x4, e4, hf⟩ := bnd hf
  obtain ⟨h5, e5, hf⟩ := bnd hf
  have k5 := c_X0_init e5
  have m5 := (k5 default_g).1
  obtain ⟨h6, e6, hf⟩ := bnd hf
  have m6 := nn_pr e6
  have m7 := nn_o (h := h6) (c := 5) (n := 10)
  obtain ⟨x8, e8, hf⟩ := bnd hf
  obtain ⟨x9, e9, hf⟩ := bnd hf
  obtain ⟨h10, e10, hf⟩ := bnd hf
  have k10 := c_X5_init e10
  have m10 := (k10 default_g).1
  obtain ⟨h11, e11, hf⟩ := bnd hf
  have m11 := nn_pr e11
  obtain ⟨h12, e12, hf⟩ := bnd hf
  have m12 := nn_pi e12
  obtain ⟨x13, e13, hf⟩ := bnd hf
  obtain ⟨h14, e14, hf⟩ := bnd hf
  have k14 := c_J7_fill_53178 e14
  have m14 := (k14 default_g).1
  obtain ⟨x15, e15, hf⟩ := bnd hf
  obtain ⟨x16, e16, hf⟩ := bnd hf
  obtain ⟨h17, e17, hf⟩ := bnd hf
  have k17 := c_X7_begin e17
  have m17 := (k17 default_g).1
  have hh := Option.some.inj hf
  subst hh
  have mE : hp_n h17 ≤ hp_n h17 ∧ hp_s h17 ≤ hp_s h17 := ⟨Nat.le_refl _, Nat.le_refl _⟩
  refine ⟨by omega, fun X g K ok nmx lev hK en => ?_⟩
  refine tj_aload_n ok 0 dX6_begin_0 rfl rfl ?_
  refine tj_iconst (v := 0) ok dX6_begin_1 (by decide) ?_
  refine tj_putI (k := 0) ok fcX6 (by decide) wm_127 rfl (Or.inl rfl) rfl dX6_begin_2 e1 ?_
  refine tj_aload_n ok 0 dX6_begin_5 rfl rfl ?_
  refine tj_iconst (v := -1) ok dX6_begin_6 (by decide) ?_
  refine tj_putI (k := 1) ok fcX6 (by decide) wm_128 rfl (Or.inl rfl) rfl dX6_begin_7 e2 ?_
  refine tj_aload_n ok 0 dX6_begin_10 rfl rfl ?_
  refine tj_new ok fcX0 wm_1031 wm_152 wm_56 dX6_begin_11 nfX0 ndX0 (CaX.of en (by omega)) ?_
  refine tj_dupa ok dX6_begin_14 ?_
  refine tj_callN (rest := ([.inr (.inr (hp_n h2)), .inr (.inr (a0))] : List TV).map (vl g)) (as := []) (i := 9) ok lev (by omega) (of_if e4).1 (k5 g) (CaX.of en (by omega)) kn_X0_init rfl rfl wm_153 (rs_ok (Nat.le_of_ble_eq_true rfl)) rfl dX6_begin_15 ?_
  refine tj_putR (k := 5) ok fcX6 (by decide) wm_135 rfl (Or.inl rfl) (Or.inl ⟨_, rfl⟩) dX6_begin_18 e6 ?_
  refine tj_aload_n ok 0 dX6_begin_21 rfl rfl ?_
  refine tj_new ok fcX5 wm_1032 wm_985 wm_226 dX6_begin_22 nfX5 ndX5 (CaX.of en (by omega)) ?_
  refine tj_dupa ok dX6_begin_25 ?_
  refine tj_aload_n ok 0 dX6_begin_26 rfl rfl ?_
  refine tj_getR (k := 5) ok fcX6 (by decide) wm_135 rfl (Or.inl ⟨_, rfl⟩) dX6_begin_27 e8 ?_
  refine tj_callI (rest := ([.inr (.inr (hp_n h6)), .inr (.inr (a0))] : List TV).map (vl g)) (as := [.inr (.inr (x8))]) ok lev (by omega) (of_if e9).1 (k10 g) (CaX.of en (by omega)) kn_X5_init rfl wm_1033 wm_987 (rs_ok (Nat.le_of_ble_eq_true rfl)) rfl dX6_begin_30 ?_
  refine tj_putR (k := 4) ok fcX6 (by decide) wm_134 rfl (Or.inl rfl) (Or.inl ⟨_, rfl⟩) dX6_begin_33 e11 ?_
  refine tj_aload_n ok 0 dX6_begin_36 rfl rfl ?_
  refine tj_iconst (v := 0) ok dX6_begin_37 (by decide) ?_
  refine tj_putI (k := 8) ok fcX6 (by decide) wm_138 rfl (Or.inl rfl) rfl dX6_begin_38 e12 ?_
  refine tj_aload_n ok 0 dX6_begin_41 rfl rfl ?_
  refine tj_getR (k := 3) ok fcX6 (by decide) wm_133 rfl (Or.inr ⟨_, rfl⟩) dX6_begin_42 e13 ?_
  refine tj_iconst (v := -1) ok dX6_begin_45 (by decide) ?_
  refine tj_callS (rest := ([] : List TV).map (vl g)) (as := [.inr (.inr (x13)), .inl ((-1 : Int32))]) ok lev (by omega) (k14 g) (CaX.of en (by omega)) kn_J7_fill_53178 wm_1034 wm_218 (rs_ok (Nat.le_of_ble_eq_true rfl)) rfl rfl dX6_begin_46 ?_
  refine tj_aload_n ok 0 dX6_begin_49 rfl rfl ?_
  refine tj_getR (k := 2) ok fcX6 (by decide) wm_132 rfl (Or.inl ⟨_, rfl⟩) dX6_begin_50 e15 ?_
  refine tj_aload_n ok 1 dX6_begin_53 rfl rfl ?_
  refine tj_iload_n ok 2 dX6_begin_54 rfl rfl ?_
  refine tj_callV (rest := ([] : List TV).map (vl g)) (as := [.inr (.inr (a1)), .inl (a2)]) ok lev (by omega) fcX7.1 (by decide) rfl (of_if e16).1 (k17 g) (CaX.of en (by omega)) kn_X7_begin wm_1035 wm_1036 wm_1037 (rs_ok (Nat.le_of_ble_eq_true rfl)) rfl rfl dX6_begin_55 ?_
  exact tj_return ok en dX6_begin_58
def f_X6_begin (a0 : Nat) (a1 : Nat) (a2 : Int32) (h : AH) : Option (AH) := b_X6_begin_0  a0 a1 a2 h
theorem c_X6_begin {a0 : Nat} {a1 : Nat} {a2 : Int32} {h hE : AH} (hf : f_X6_begin a0 a1 a2 h = some hE) : ∀ g : GT, CM g (12) yX6_begin cX6_begin 3 none h [.inr (.inr (a0)), .inr (.inr (a1)), .inl (a2)] hE none :=
  CM.ofJ (by decide) (by show _ ≤ 3; exact Nat.le_of_ble_eq_true rfl) (q_X6_begin_0 hf)
/-! ===== LitmusHouse$Reader.refuse(II)Z ===== -/
def b_X6_refuse_0 (a0 : Nat) (a1 : Int32) (a2 : Int32) (h : AH) : Option (Int32 × AH) :=
  (p_i h a0 6 0 a1).bind fun h1 => (p_i h1 a0 6 1 a2).bind fun h2 => ok_z (0 : Int32) h2
set_option maxHeartbeats 4000000 in
set_option maxRecDepth 100000 in
theorem q_X6_refuse_0 {a0 : Nat} {a1 : Int32} {a2 : Int32} {h hE : AH} {v : Int32} (hf : b_X6_refuse_0 a0 a1 a2 h = some (v, hE)) : JD cX6_refuse 3 RX6 "refuse" (some .boolean) (2) 0 [(0, .inr (.inr (a0))), (1, .inl (a1)), (2, .inl (a2))] [] h hE (some (.inl (v))) := by
  unfold b_X6_refuse_0 at hf
  obtain ⟨h1, e1, hf⟩ := bnd hf
  have m1 := nn_pi e1
  obtain ⟨h2, e2, hf⟩ := bnd hf
  have m2 := nn_pi e2
  have mE : hp_n h2 ≤ hp_n hE ∧ hp_s h2 ≤ hp_s hE := by obtain ⟨-, q⟩ := of_if hf; cases q; exact ⟨Nat.le_refl _, Nat.le_refl _⟩
  refine ⟨by omega, fun X g K ok nmx lev hK en => ?_⟩
  refine tj_aload_n ok 0 dX6_refuse_0 rfl rfl ?_
  refine tj_iload_n ok 1 dX6_refuse_1 rfl rfl ?_
  refine tj_putI (k := 0) ok fcX6 (by decide) wm_127 rfl (Or.inl rfl) rfl dX6_refuse_2 e1 ?_
  refine tj_aload_n ok 0 dX6_refuse_5 rfl rfl ?_
  refine tj_iload_n ok 2 dX6_refuse_6 rfl rfl ?_
  refine tj_putI (k := 1) ok fcX6 (by decide) wm_128 rfl (Or.inl rfl) rfl dX6_refuse_7 e2 ?_
  refine tj_iconst (v := 0) ok dX6_refuse_10 (by decide) ?_
  exact tj_zreturn ok hf en dX6_refuse_11
def f_X6_refuse (a0 : Nat) (a1 : Int32) (a2 : Int32) (h : AH) : Option (Int32 × AH) := b_X6_refuse_0  a0 a1 a2 h
theorem c_X6_refuse {a0 : Nat} {a1 : Int32} {a2 : Int32} {h hE : AH} {v : Int32} (hf : f_X6_refuse a0 a1 a2 h = some (v, hE)) : ∀ g : GT, CM g (2) yX6_refuse cX6_refuse 3 (some .boolean) h [.inr (.inr (a0)), .inl (a1), .inl (a2)] hE (some (.inl (v))) :=
  CM.ofJ (by decide) (by show _ ≤ 3; exact Nat.le_of_ble_eq_true rfl) (q_X6_refuse_0 hf)
/-! ===== LitmusHouse$Reader.checkCell()Z ===== -/
def b_X6_checkCell_42 (s0 : Int32) (h : AH) : Option (Int32 × AH) :=
  ok_z s0 h
set_option maxHeartbeats 4000000 in
set_option maxRecDepth 100000 in
theorem q_X6_checkCell_42 {s0 : Int32} {h hE : AH} {v : Int32} (hf : b_X6_checkCell_42 s0 h = some (v, hE)) : JD cX6_checkCell 1 RX6 "checkCell" (some .boolean) (3) 42 [] [.inl (s0)] h hE (some (.inl (v))) := by
  unfold b_X6_checkCell_42 at hf
  have mE : hp_n h ≤ hp_n hE ∧ hp_s h ≤ hp_s hE := by obtain ⟨-, q⟩ := of_if hf; cases q; exact ⟨Nat.le_refl _, Nat.le_refl _⟩
  refine ⟨by omega, fun X g K ok nmx lev hK en => ?_⟩
  exact tj_zreturn ok hf en dX6_checkCell_42
def b_X6_checkCell_37  (h : AH) : Option (Int32 × AH) :=
  b_X6_checkCell_42 (1 : Int32) h
set_option maxHeartbeats 4000000 in
set_option maxRecDepth 100000 in
theorem q_X6_checkCell_37 {h hE : AH} {v : Int32} (hf : b_X6_checkCell_37  h = some (v, hE)) : JD cX6_checkCell 1 RX6 "checkCell" (some .boolean) (3) 37 [] [] h hE (some (.inl (v))) := by
  unfold b_X6_checkCell_37 at hf
  have J := q_X6_checkCell_42 hf
  have mE := J.1
  refine ⟨by omega, fun X g K ok nmx lev hK en => ?_⟩
  refine tj_iconst (v := 1) ok dX6_checkCell_37 (by decide) ?_
  refine tj_goto (tgt := 42) ok dX6_checkCell_38 (by decide) ?_
  exact J.2 X g K ok nmx lev hK en
def b_X6_checkCell_41  (h : AH) : Option (Int32 × AH) :=
  b_X6_checkCell_42 (0 : Int32) h
set_option maxHeartbeats 4000000 in
set_option maxRecDepth 100000 in
theorem q_X6_checkCell_41 {h hE : AH} {v : Int32} (hf : b_X6_checkCell_41  h = some (v, hE)) : JD cX6_checkCell 1 RX6 "checkCell" (some .boolean) (3) 41 [] [] h hE (some (.inl (v))) := by
  unfold b_X6_checkCell_41 at hf
  have J := q_X6_checkCell_42 hf
  have mE := J.1
  refine ⟨by omega, fun X g K ok nmx lev hK en => ?_⟩
  refine tj_iconst (v := 0) ok dX6_checkCell_41 (by decide) ?_
  exact J.2 X g K ok nmx lev hK en
def b_X6_checkCell_22 (a0 : Nat) (h : AH) : Option (Int32 × AH) :=
  (g_r h a0 6 2).bind fun x1 => (g_i h x1 7 2).bind fun x2 => (ok_v h a0 6).bind fun x3 => (f_X6_refuse a0 (2 : Int32) x2 h).bind fun q4 => if q4.1 = 0 then b_X6_checkCell_41 q4.2 else b_X6_checkCell_37 q4.2
set_option maxHeartbeats 4000000 in
set_option maxRecDepth 100000 in
theorem q_X6_checkCell_22 {a0 : Nat} {h hE : AH} {v : Int32} (hf : b_X6_checkCell_22 a0 h = some (v, hE)) : JD cX6_checkCell 1 RX6 "checkCell" (some .boolean) (3) 22 [(0, .inr (.inr (a0)))] [] h hE (some (.inl (v))) := by
  unfold b_X6_checkCell_22 at hf
  obtain ⟨x1, e1, hf⟩ := bnd hf
  obtain ⟨x2, e2, hf⟩ := bnd hf
  obtain ⟨x3, e3, hf⟩ := bnd hf
  obtain ⟨⟨x4, h4⟩, e4, hf⟩ := bnd hf
  try dsimp only at hf
  have k4 := c_X6_refuse e4
  have m4 := (k4 default_g).1
  have mE : hp_n h4 ≤ hp_n hE ∧ hp_s h4 ≤ hp_s hE := by
    by_cases hc : x4 = 0
    · rw [if_pos hc] at hf; exact (q_X6_checkCell_41 hf).1
    · rw [if_neg hc] at hf; exact (q_X6_checkCell_37 hf).1
  refine ⟨by omega, fun X g K ok nmx lev hK en => ?_⟩
  refine tj_aload_n ok 0 dX6_checkCell_22 rfl rfl ?_
  refine tj_iconst (v := 2) ok dX6_checkCell_23 (by decide) ?_
  refine tj_aload_n ok 0 dX6_checkCell_24 rfl rfl ?_
  refine tj_getR (k := 2) ok fcX6 (by decide) wm_132 rfl (Or.inl ⟨_, rfl⟩) dX6_checkCell_25 e1 ?_
  refine tj_getI (k := 2) ok fcX7 (by decide) wm_1040 rfl (Or.inl rfl) dX6_checkCell_28 e2 ?_
  refine tj_callV (rest := ([] : List TV).map (vl g)) (as := [.inl ((2 : Int32)), .inl (x2)]) ok lev (by omega) fcX6.1 (by decide) rfl (of_if e3).1 (k4 g) (CaX.of en (by omega)) kn_X6_refuse wm_1041 wm_1042 wm_1043 (rs_ok (Nat.le_of_ble_eq_true rfl)) rfl rfl dX6_checkCell_31 ?_
  refine tj_if_eq (tgt := 41) ok dX6_checkCell_34 (by decide) (fun hc => ?_) (fun hc => ?_)
  · rw [if_pos hc] at hf
    refine tj_sub (lv' := []) [] rfl ?_
    exact (q_X6_checkCell_41 hf).2 X g K ok nmx lev hK en
  · rw [if_neg hc] at hf
    refine tj_sub (lv' := []) [] rfl ?_
    exact (q_X6_checkCell_37 hf).2 X g K ok nmx lev hK en
def b_X6_checkCell_0 (a0 : Nat) (h : AH) : Option (Int32 × AH) :=
  (g_r h a0 6 4).bind fun x1 => (g_r h x1 5 1).bind fun x2 => (g_r h a0 6 2).bind fun x3 => (g_i h x3 7 1).bind fun x4 => (l_i h x2 (x4 &&& (7 : Int32))).bind fun x5 => if x5 = (-1 : Int32) then b_X6_checkCell_22 a0 h else b_X6_checkCell_37 h
set_option maxHeartbeats 4000000 in
set_option maxRecDepth 100000 in
theorem q_X6_checkCell_0 {a0 : Nat} {h hE : AH} {v : Int32} (hf : b_X6_checkCell_0 a0 h = some (v, hE)) : JD cX6_checkCell 1 RX6 "checkCell" (some .boolean) (3) 0 [(0, .inr (.inr (a0)))] [] h hE (some (.inl (v))) := by
  unfold b_X6_checkCell_0 at hf
  obtain ⟨x1, e1, hf⟩ := bnd hf
  obtain ⟨x2, e2, hf⟩ := bnd hf
  obtain ⟨x3, e3, hf⟩ := bnd hf
  obtain ⟨x4, e4, hf⟩ := bnd hf
  obtain ⟨x5, e5, hf⟩ := bnd hf
  have mE : hp_n h ≤ hp_n hE ∧ hp_s h ≤ hp_s hE := by
    by_cases hc : x5 = (-1 : Int32)
    · rw [if_pos hc] at hf; exact (q_X6_checkCell_22 hf).1
    · rw [if_neg hc] at hf; exact (q_X6_checkCell_37 hf).1
  refine ⟨by omega, fun X g K ok nmx lev hK en => ?_⟩
  refine tj_aload_n ok 0 dX6_checkCell_0 rfl rfl ?_
  refine tj_getR (k := 4) ok fcX6 (by decide) wm_134 rfl (Or.inl ⟨_, rfl⟩) dX6_checkCell_1 e1 ?_
  refine tj_getR (k := 1) ok fcX5 (by decide) wm_1044 rfl (Or.inr ⟨_, rfl⟩) dX6_checkCell_4 e2 ?_
  refine tj_aload_n ok 0 dX6_checkCell_7 rfl rfl ?_
  refine tj_getR (k := 2) ok fcX6 (by decide) wm_132 rfl (Or.inl ⟨_, rfl⟩) dX6_checkCell_8 e3 ?_
  refine tj_getI (k := 1) ok fcX7 (by decide) wm_1045 rfl (Or.inl rfl) dX6_checkCell_11 e4 ?_
  refine tj_bipush (v := 7) ok dX6_checkCell_14 (by decide) ?_
  refine tj_iand ok dX6_checkCell_16 ?_
  refine tj_iaload ok dX6_checkCell_17 e5 ?_
  refine tj_iconst (v := -1) ok dX6_checkCell_18 (by decide) ?_
  refine tj_icmp_ne (tgt := 37) ok dX6_checkCell_19 (by decide) (fun hc => ?_) (fun hc => ?_)
  · rw [if_neg hc] at hf
    refine tj_sub (lv' := []) [] rfl ?_
    exact (q_X6_checkCell_37 hf).2 X g K ok nmx lev hK en
  · rw [if_pos hc] at hf
    exact (q_X6_checkCell_22 hf).2 X g K ok nmx lev hK en
def f_X6_checkCell (a0 : Nat) (h : AH) : Option (Int32 × AH) := b_X6_checkCell_0  a0 h
theorem c_X6_checkCell {a0 : Nat} {h hE : AH} {v : Int32} (hf : f_X6_checkCell a0 h = some (v, hE)) : ∀ g : GT, CM g (3) yX6_checkCell cX6_checkCell 1 (some .boolean) h [.inr (.inr (a0))] hE (some (.inl (v))) :=
  CM.ofJ (by decide) (by show _ ≤ 1; exact Nat.le_of_ble_eq_true rfl) (q_X6_checkCell_0 hf)
/-! ===== LitmusHouse$Reader.checkLocal()Z ===== -/
def b_X6_checkLocal_79 (s0 : Int32) (h : AH) : Option (Int32 × AH) :=
  ok_z s0 h
set_option maxHeartbeats 4000000 in
set_option maxRecDepth 100000 in
theorem q_X6_checkLocal_79 {s0 : Int32} {h hE : AH} {v : Int32} (hf : b_X6_checkLocal_79 s0 h = some (v, hE)) : JD cX6_checkLocal 2 RX6 "checkLocal" (some .boolean) (3) 79 [] [.inl (s0)] h hE (some (.inl (v))) := by
  unfold b_X6_checkLocal_79 at hf
  have mE : hp_n h ≤ hp_n hE ∧ hp_s h ≤ hp_s hE := by obtain ⟨-, q⟩ := of_if hf; cases q; exact ⟨Nat.le_refl _, Nat.le_refl _⟩
  refine ⟨by omega, fun X g K ok nmx lev hK en => ?_⟩
  exact tj_zreturn ok hf en dX6_checkLocal_79
def b_X6_checkLocal_74  (h : AH) : Option (Int32 × AH) :=
  b_X6_checkLocal_79 (1 : Int32) h
set_option maxHeartbeats 4000000 in
set_option maxRecDepth 100000 in
theorem q_X6_checkLocal_74 {h hE : AH} {v : Int32} (hf : b_X6_checkLocal_74  h = some (v, hE)) : JD cX6_checkLocal 2 RX6 "checkLocal" (some .boolean) (3) 74 [] [] h hE (some (.inl (v))) := by
  unfold b_X6_checkLocal_74 at hf
  have J := q_X6_checkLocal_79 hf
  have mE := J.1
  refine ⟨by omega, fun X g K ok nmx lev hK en => ?_⟩
  refine tj_iconst (v := 1) ok dX6_checkLocal_74 (by decide) ?_
  refine tj_goto (tgt := 79) ok dX6_checkLocal_75 (by decide) ?_
  exact J.2 X g K ok nmx lev hK en
def b_X6_checkLocal_78  (h : AH) : Option (Int32 × AH) :=
  b_X6_checkLocal_79 (0 : Int32) h
set_option maxHeartbeats 4000000 in
set_option maxRecDepth 100000 in
theorem q_X6_checkLocal_78 {h hE : AH} {v : Int32} (hf : b_X6_checkLocal_78  h = some (v, hE)) : JD cX6_checkLocal 2 RX6 "checkLocal" (some .boolean) (3) 78 [] [] h hE (some (.inl (v))) := by
  unfold b_X6_checkLocal_78 at hf
  have J := q_X6_checkLocal_79 hf
  have mE := J.1
  refine ⟨by omega, fun X g K ok nmx lev hK en => ?_⟩
  refine tj_iconst (v := 0) ok dX6_checkLocal_78 (by decide) ?_
  exact J.2 X g K ok nmx lev hK en
def b_X6_checkLocal_59 (a0 : Nat) (h : AH) : Option (Int32 × AH) :=
  (g_r h a0 6 2).bind fun x1 => (g_i h x1 7 2).bind fun x2 => (ok_v h a0 6).bind fun x3 => (f_X6_refuse a0 (3 : Int32) x2 h).bind fun q4 => if q4.1 = 0 then b_X6_checkLocal_78 q4.2 else b_X6_checkLocal_74 q4.2
set_option maxHeartbeats 4000000 in
set_option maxRecDepth 100000 in
theorem q_X6_checkLocal_59 {a0 : Nat} {h hE : AH} {v : Int32} (hf : b_X6_checkLocal_59 a0 h = some (v, hE)) : JD cX6_checkLocal 2 RX6 "checkLocal" (some .boolean) (3) 59 [(0, .inr (.inr (a0)))] [] h hE (some (.inl (v))) := by
  unfold b_X6_checkLocal_59 at hf
  obtain ⟨x1, e1, hf⟩ := bnd hf
  obtain ⟨x2, e2, hf⟩ := bnd hf
  obtain ⟨x3, e3, hf⟩ := bnd hf
  obtain ⟨⟨x4, h4⟩, e4, hf⟩ := bnd hf
  try dsimp only at hf
  have k4 := c_X6_refuse e4
  have m4 := (k4 default_g).1
  have mE : hp_n h4 ≤ hp_n hE ∧ hp_s h4 ≤ hp_s hE := by
    by_cases hc : x4 = 0
    · rw [if_pos hc] at hf; exact (q_X6_checkLocal_78 hf).1
    · rw [if_neg hc] at hf; exact (q_X6_checkLocal_74 hf).1
  refine ⟨by omega, fun X g K ok nmx lev hK en => ?_⟩
  refine tj_aload_n ok 0 dX6_checkLocal_59 rfl rfl ?_
  refine tj_iconst (v := 3) ok dX6_checkLocal_60 (by decide) ?_
  refine tj_aload_n ok 0 dX6_checkLocal_61 rfl rfl ?_
  refine tj_getR (k := 2) ok fcX6 (by decide) wm_132 rfl (Or.inl ⟨_, rfl⟩) dX6_checkLocal_62 e1 ?_
  refine tj_getI (k := 2) ok fcX7 (by decide) wm_1040 rfl (Or.inl rfl) dX6_checkLocal_65 e2 ?_
  refine tj_callV (rest := ([] : List TV).map (vl g)) (as := [.inl ((3 : Int32)), .inl (x2)]) ok lev (by omega) fcX6.1 (by decide) rfl (of_if e3).1 (k4 g) (CaX.of en (by omega)) kn_X6_refuse wm_1041 wm_1042 wm_1043 (rs_ok (Nat.le_of_ble_eq_true rfl)) rfl rfl dX6_checkLocal_68 ?_
  refine tj_if_eq (tgt := 78) ok dX6_checkLocal_71 (by decide) (fun hc => ?_) (fun hc => ?_)
  · rw [if_pos hc] at hf
    refine tj_sub (lv' := []) [] rfl ?_
    exact (q_X6_checkLocal_78 hf).2 X g K ok nmx lev hK en
  · rw [if_neg hc] at hf
    refine tj_sub (lv' := []) [] rfl ?_
    exact (q_X6_checkLocal_74 hf).2 X g K ok nmx lev hK en
def b_X6_checkLocal_46 (a0 : Nat) (a1 : Int32) (h : AH) : Option (Int32 × AH) :=
  (g_r h a0 6 3).bind fun x1 => (l_i h x1 a1).bind fun x2 => (g_i h a0 6 6).bind fun x3 => if x2 = x3 then b_X6_checkLocal_74 h else b_X6_checkLocal_59 a0 h
set_option maxHeartbeats 4000000 in
set_option maxRecDepth 100000 in
theorem q_X6_checkLocal_46 {a0 : Nat} {a1 : Int32} {h hE : AH} {v : Int32} (hf : b_X6_checkLocal_46 a0 a1 h = some (v, hE)) : JD cX6_checkLocal 2 RX6 "checkLocal" (some .boolean) (3) 46 [(0, .inr (.inr (a0))), (1, .inl (a1))] [] h hE (some (.inl (v))) := by
  unfold b_X6_checkLocal_46 at hf
  obtain ⟨x1, e1, hf⟩ := bnd hf
  obtain ⟨x2, e2, hf⟩ := bnd hf
  obtain ⟨x3, e3, hf⟩ := bnd hf
  have mE : hp_n h ≤ hp_n hE ∧ hp_s h ≤ hp_s hE := by
    by_cases hc : x2 = x3
    · rw [if_pos hc] at hf; exact (q_X6_checkLocal_74 hf).1
    · rw [if_neg hc] at hf; exact (q_X6_checkLocal_59 hf).1
  refine ⟨by omega, fun X g K ok nmx lev hK en => ?_⟩
  refine tj_aload_n ok 0 dX6_checkLocal_46 rfl rfl ?_
  refine tj_getR (k := 3) ok fcX6 (by decide) wm_133 rfl (Or.inr ⟨_, rfl⟩) dX6_checkLocal_47 e1 ?_
  refine tj_iload_n ok 1 dX6_checkLocal_50 rfl rfl ?_
  refine tj_iaload ok dX6_checkLocal_51 e2 ?_
  refine tj_aload_n ok 0 dX6_checkLocal_52 rfl rfl ?_
  refine tj_getI (k := 6) ok fcX6 (by decide) wm_136 rfl (Or.inl rfl) dX6_checkLocal_53 e3 ?_
  refine tj_icmp_eq (tgt := 74) ok dX6_checkLocal_56 (by decide) (fun hc => ?_) (fun hc => ?_)
  · rw [if_pos hc] at hf
    refine tj_sub (lv' := []) [] rfl ?_
    exact (q_X6_checkLocal_74 hf).2 X g K ok nmx lev hK en
  · rw [if_neg hc] at hf
    refine tj_sub (lv' := [(0, .inr (.inr (a0)))]) [0] rfl ?_
    exact (q_X6_checkLocal_59 hf).2 X g K ok nmx lev hK en
def b_X6_checkLocal_21 (a0 : Nat) (a1 : Int32) (h : AH) : Option (Int32 × AH) :=
  (g_r h a0 6 3).bind fun x1 => (g_i h a0 6 6).bind fun x2 => (s_i h x1 a1 x2).bind fun h3 => (g_r h3 a0 6 5).bind fun x4 => (g_i h3 x4 0 14).bind fun x5 => (p_i h3 x4 0 14 (x5 ||| ((1 : Int32) <<< (a1 &&& 31)))).bind fun h6 => b_X6_checkLocal_46 a0 a1 h6
set_option maxHeartbeats 4000000 in
set_option maxRecDepth 100000 in
theorem q_X6_checkLocal_21 {a0 : Nat} {a1 : Int32} {h hE : AH} {v : Int32} (hf : b_X6_checkLocal_21 a0 a1 h = some (v, hE)) : JD cX6_checkLocal 2 RX6 "checkLocal" (some .boolean) (3) 21 [(0, .inr (.inr (a0))), (1, .inl (a1))] [] h hE (some (.inl (v))) := by
  unfold b_X6_checkLocal_21 at hf
  obtain ⟨x1, e1, hf⟩ := bnd hf
  obtain ⟨x2, e2, hf⟩ := bnd hf
  obtain ⟨h3, e3, hf⟩ := bnd hf
  have m3 := nn_si e3
  obtain ⟨x4, e4, hf⟩ := bnd hf
  obtain ⟨x5, e5, hf⟩ := bnd hf
  obtain ⟨h6, e6, hf⟩ := bnd hf
  have m6 := nn_pi e6
  have J := q_X6_checkLocal_46 hf
  have mE := J.1
  refine ⟨by omega, fun X g K ok nmx lev hK en => ?_⟩
  refine tj_aload_n ok 0 dX6_checkLocal_21 rfl rfl ?_
  refine tj_getR (k := 3) ok fcX6 (by decide) wm_133 rfl (Or.inr ⟨_, rfl⟩) dX6_checkLocal_22 e1 ?_
  refine tj_iload_n ok 1 dX6_checkLocal_25 rfl rfl ?_
  refine tj_aload_n ok 0 dX6_checkLocal_26 rfl rfl ?_
  refine tj_getI (k := 6) ok fcX6 (by decide) wm_136 rfl (Or.inl rfl) dX6_checkLocal_27 e2 ?_
  refine tj_iastore ok dX6_checkLocal_30 e3 ?_
  refine tj_aload_n ok 0 dX6_checkLocal_31 rfl rfl ?_
  refine tj_getR (k := 5) ok fcX6 (by decide) wm_135 rfl (Or.inl ⟨_, rfl⟩) dX6_checkLocal_32 e4 ?_
  refine tj_dupa ok dX6_checkLocal_35 ?_
  refine tj_getI (k := 14) ok fcX0 (by decide) wm_1047 rfl (Or.inl rfl) dX6_checkLocal_36 e5 ?_
  refine tj_iconst (v := 1) ok dX6_checkLocal_39 (by decide) ?_
  refine tj_iload_n ok 1 dX6_checkLocal_40 rfl rfl ?_
  refine tj_ishl ok dX6_checkLocal_41 ?_
  refine tj_ior ok dX6_checkLocal_42 ?_
  refine tj_putI (k := 14) ok fcX0 (by decide) wm_1047 rfl (Or.inl rfl) rfl dX6_checkLocal_43 e6 ?_
  exact J.2 X g K ok nmx lev hK en
def b_X6_checkLocal_0 (a0 : Nat) (h : AH) : Option (Int32 × AH) :=
  (g_r h a0 6 2).bind fun x1 => (g_i h x1 7 1).bind fun x2 => (g_r h a0 6 3).bind fun x3 => (l_i h x3 (x2 &&& (7 : Int32))).bind fun x4 => if x4 = (-1 : Int32) then b_X6_checkLocal_21 a0 (x2 &&& (7 : Int32)) h else b_X6_checkLocal_46 a0 (x2 &&& (7 : Int32)) h
set_option maxHeartbeats 4000000 in
set_option maxRecDepth 100000 in
theorem q_X6_checkLocal_0 {a0 : Nat} {h hE : AH} {v : Int32} (hf : b_X6_checkLocal_0 a0 h = some (v, hE)) : JD cX6_checkLocal 2 RX6 "checkLocal" (some .boolean) (3) 0 [(0, .inr (.inr (a0)))] [] h hE (some (.inl (v))) := by
  unfold b_X6_checkLocal_0 at hf
  obtain ⟨x1, e1, hf⟩ := bnd hf
  obtain ⟨x2, e2, hf⟩ := bnd hf
  obtain ⟨x3, e3, hf⟩ := bnd hf
  obtain ⟨x4, e4, hf⟩ := bnd hf
  have mE : hp_n h ≤ hp_n hE ∧ hp_s h ≤ hp_s hE := by
    by_cases hc : x4 = (-1 : Int32)
    · rw [if_pos hc] at hf; exact (q_X6_checkLocal_21 hf).1
    · rw [if_neg hc] at hf; exact (q_X6_checkLocal_46 hf).1
  refine ⟨by omega, fun X g K ok nmx lev hK en => ?_⟩
  refine tj_aload_n ok 0 dX6_checkLocal_0 rfl rfl ?_
  refine tj_getR (k := 2) ok fcX6 (by decide) wm_132 rfl (Or.inl ⟨_, rfl⟩) dX6_checkLocal_1 e1 ?_
  refine tj_getI (k := 1) ok fcX7 (by decide) wm_1045 rfl (Or.inl rfl) dX6_checkLocal_4 e2 ?_
  refine tj_bipush (v := 7) ok dX6_checkLocal_7 (by decide) ?_
  refine tj_iand ok dX6_checkLocal_9 ?_
  refine tj_istore_n (lv' := [(0, .inr (.inr (a0))), (1, .inl (x2 &&& (7 : Int32)))]) ok dX6_checkLocal_10 rfl (by decide) rfl ?_
  refine tj_aload_n ok 0 dX6_checkLocal_11 rfl rfl ?_
  refine tj_getR (k := 3) ok fcX6 (by decide) wm_133 rfl (Or.inr ⟨_, rfl⟩) dX6_checkLocal_12 e3 ?_
  refine tj_iload_n ok 1 dX6_checkLocal_15 rfl rfl ?_
  refine tj_iaload ok dX6_checkLocal_16 e4 ?_
  refine tj_iconst (v := -1) ok dX6_checkLocal_17 (by decide) ?_
  refine tj_icmp_ne (tgt := 46) ok dX6_checkLocal_18 (by decide) (fun hc => ?_) (fun hc => ?_)
  · rw [if_neg hc] at hf
    exact (q_X6_checkLocal_46 hf).2 X g K ok nmx lev hK en
  · rw [if_pos hc] at hf
    exact (q_X6_checkLocal_21 hf).2 X g K ok nmx lev hK en
def f_X6_checkLocal (a0 : Nat) (h : AH) : Option (Int32 × AH) := b_X6_checkLocal_0  a0 h
theorem c_X6_checkLocal {a0 : Nat} {h hE : AH} {v : Int32} (hf : f_X6_checkLocal a0 h = some (v, hE)) : ∀ g : GT, CM g (3) yX6_checkLocal cX6_checkLocal 2 (some .boolean) h [.inr (.inr (a0))] hE (some (.inl (v))) :=
  CM.ofJ (by decide) (by show _ ≤ 2; exact Nat.le_of_ble_eq_true rfl) (q_X6_checkLocal_0 hf)
/-! ===== LitmusHouse$Reader.checkMaker()Z ===== -/
def b_X6_checkMaker_85 (s0 : Int32) (h : AH) : Option (Int32 × AH) :=
  ok_z s0 h
set_option maxHeartbeats 4000000 in
set_option maxRecDepth 100000 in
theorem q_X6_checkMaker_85 {s0 : Int32} {h hE : AH} {v : Int32} (hf : b_X6_checkMaker_85 s0 h = some (v, hE)) : JD cX6_checkMaker 2 RX6 "checkMaker" (some .boolean) (3) 85 [] [.inl (s0)] h hE (some (.inl (v))) := by
  unfold b_X6_checkMaker_85 at hf
  have mE : hp_n h ≤ hp_n hE ∧ hp_s h ≤ hp_s hE := by obtain ⟨-, q⟩ := of_if hf; cases q; exact ⟨Nat.le_refl _, Nat.le_refl _⟩
  refine ⟨by omega, fun X g K ok nmx lev hK en => ?_⟩
  exact tj_zreturn ok hf en dX6_checkMaker_85
def b_X6_checkMaker_80  (h : AH) : Option (Int32 × AH) :=
  b_X6_checkMaker_85 (1 : Int32) h
set_option maxHeartbeats 4000000 in
set_option maxRecDepth 100000 in
theorem q_X6_checkMaker_80 {h hE : AH} {v : Int32} (hf : b_X6_checkMaker_80  h = some (v, hE)) : JD cX6_checkMaker 2 RX6 "checkMaker" (some .boolean) (3) 80 [] [] h hE (some (.inl (v))) := by
  unfold b_X6_checkMaker_80 at hf
  have J := q_X6_checkMaker_85 hf
  have mE := J.1
  refine ⟨by omega, fun X g K ok nmx lev hK en => ?_⟩
  refine tj_iconst (v := 1) ok dX6_checkMaker_80 (by decide) ?_
  refine tj_goto (tgt := 85) ok dX6_checkMaker_81 (by decide) ?_
  exact J.2 X g K ok nmx lev hK en
def b_X6_checkMaker_84  (h : AH) : Option (Int32 × AH) :=
  b_X6_checkMaker_85 (0 : Int32) h
set_option maxHeartbeats 4000000 in
set_option maxRecDepth 100000 in
theorem q_X6_checkMaker_84 {h hE : AH} {v : Int32} (hf : b_X6_checkMaker_84  h = some (v, hE)) : JD cX6_checkMaker 2 RX6 "checkMaker" (some .boolean) (3) 84 [] [] h hE (some (.inl (v))) := by
  unfold b_X6_checkMaker_84 at hf
  have J := q_X6_checkMaker_85 hf
  have mE := J.1
  refine ⟨by omega, fun X g K ok nmx lev hK en => ?_⟩
  refine tj_iconst (v := 0) ok dX6_checkMaker_84 (by decide) ?_
  exact J.2 X g K ok nmx lev hK en
def b_X6_checkMaker_64 (a0 : Nat) (h : AH) : Option (Int32 × AH) :=
  (g_r h a0 6 2).bind fun x1 => (g_i h x1 7 2).bind fun x2 => (ok_v h a0 6).bind fun x3 => (f_X6_refuse a0 (6 : Int32) x2 h).bind fun q4 => if q4.1 = 0 then b_X6_checkMaker_84 q4.2 else b_X6_checkMaker_80 q4.2
set_option maxHeartbeats 4000000 in
set_option maxRecDepth 100000 in
theorem q_X6_checkMaker_64 {a0 : Nat} {h hE : AH} {v : Int32} (hf : b_X6_checkMaker_64 a0 h = some (v, hE)) : JD cX6_checkMaker 2 RX6 "checkMaker" (some .boolean) (3) 64 [(0, .inr (.inr (a0)))] [] h hE (some (.inl (v))) := by
  unfold b_X6_checkMaker_64 at hf
  obtain ⟨x1, e1, hf⟩ := bnd hf
  obtain ⟨x2, e2, hf⟩ := bnd hf
  obtain ⟨x3, e3, hf⟩ := bnd hf
  obtain ⟨⟨x4, h4⟩, e4, hf⟩ := bnd hf
  try dsimp only at hf
  have k4 := c_X6_refuse e4
  have m4 := (k4 default_g).1
  have mE : hp_n h4 ≤ hp_n hE ∧ hp_s h4 ≤ hp_s hE := by
    by_cases hc : x4 = 0
    · rw [if_pos hc] at hf; exact (q_X6_checkMaker_84 hf).1
    · rw [if_neg hc] at hf; exact (q_X6_checkMaker_80 hf).1
  refine ⟨by omega, fun X g K ok nmx lev hK en => ?_⟩
  refine tj_aload_n ok 0 dX6_checkMaker_64 rfl rfl ?_
  refine tj_bipush (v := 6) ok dX6_checkMaker_65 (by decide) ?_
  refine tj_aload_n ok 0 dX6_checkMaker_67 rfl rfl ?_
  refine tj_getR (k := 2) ok fcX6 (by decide) wm_132 rfl (Or.inl ⟨_, rfl⟩) dX6_checkMaker_68 e1 ?_
  refine tj_getI (k := 2) ok fcX7 (by decide) wm_1040 rfl (Or.inl rfl) dX6_checkMaker_71 e2 ?_
  refine tj_callV (rest := ([] : List TV).map (vl g)) (as := [.inl ((6 : Int32)), .inl (x2)]) ok lev (by omega) fcX6.1 (by decide) rfl (of_if e3).1 (k4 g) (CaX.of en (by omega)) kn_X6_refuse wm_1041 wm_1042 wm_1043 (rs_ok (Nat.le_of_ble_eq_true rfl)) rfl rfl dX6_checkMaker_74 ?_
  refine tj_if_eq (tgt := 84) ok dX6_checkMaker_77 (by decide) (fun hc => ?_) (fun hc => ?_)
  · rw [if_pos hc] at hf
    refine tj_sub (lv' := []) [] rfl ?_
    exact (q_X6_checkMaker_84 hf).2 X g K ok nmx lev hK en
  · rw [if_neg hc] at hf
    refine tj_sub (lv' := []) [] rfl ?_
    exact (q_X6_checkMaker_80 hf).2 X g K ok nmx lev hK en
def b_X6_checkMaker_59 (a0 : Nat) (s0 : Int32) (h : AH) : Option (Int32 × AH) :=
  if s0 = 0 then b_X6_checkMaker_64 a0 h else b_X6_checkMaker_80 h
set_option maxHeartbeats 4000000 in
set_option maxRecDepth 100000 in
theorem q_X6_checkMaker_59 {a0 : Nat} {s0 : Int32} {h hE : AH} {v : Int32} (hf : b_X6_checkMaker_59 a0 s0 h = some (v, hE)) : JD cX6_checkMaker 2 RX6 "checkMaker" (some .boolean) (3) 59 [(0, .inr (.inr (a0)))] [.inl (s0)] h hE (some (.inl (v))) := by
  unfold b_X6_checkMaker_59 at hf
  have mE : hp_n h ≤ hp_n hE ∧ hp_s h ≤ hp_s hE := by
    by_cases hc : s0 = 0
    · rw [if_pos hc] at hf; exact (q_X6_checkMaker_64 hf).1
    · rw [if_neg hc] at hf; exact (q_X6_checkMaker_80 hf).1
  refine ⟨by omega, fun X g K ok nmx lev hK en => ?_⟩
  refine tj_istore_n (lv' := [(0, .inr (.inr (a0))), (1, .inl (s0))]) ok dX6_checkMaker_59 rfl (by decide) rfl ?_
  refine tj_iload_n ok 1 dX6_checkMaker_60 rfl rfl ?_
  refine tj_if_ne (tgt := 80) ok dX6_checkMaker_61 (by decide) (fun hc => ?_) (fun hc => ?_)
  · rw [if_neg hc] at hf
    refine tj_sub (lv' := []) [] rfl ?_
    exact (q_X6_checkMaker_80 hf).2 X g K ok nmx lev hK en
  · rw [if_pos hc] at hf
    refine tj_sub (lv' := [(0, .inr (.inr (a0)))]) [0] rfl ?_
    exact (q_X6_checkMaker_64 hf).2 X g K ok nmx lev hK en
def b_X6_checkMaker_58 (a0 : Nat) (h : AH) : Option (Int32 × AH) :=
  b_X6_checkMaker_59 a0 (0 : Int32) h
set_option maxHeartbeats 4000000 in
set_option maxRecDepth 100000 in
theorem q_X6_checkMaker_58 {a0 : Nat} {h hE : AH} {v : Int32} (hf : b_X6_checkMaker_58 a0 h = some (v, hE)) : JD cX6_checkMaker 2 RX6 "checkMaker" (some .boolean) (3) 58 [(0, .inr (.inr (a0)))] [] h hE (some (.inl (v))) := by
  unfold b_X6_checkMaker_58 at hf
  have J := q_X6_checkMaker_59 hf
  have mE := J.1
  refine ⟨by omega, fun X g K ok nmx lev hK en => ?_⟩
  refine tj_iconst (v := 0) ok dX6_checkMaker_58 (by decide) ?_
  exact J.2 X g K ok nmx lev hK en
def b_X6_checkMaker_54 (a0 : Nat) (h : AH) : Option (Int32 × AH) :=
  b_X6_checkMaker_59 a0 (1 : Int32) h
set_option maxHeartbeats 4000000 in
set_option maxRecDepth 100000 in
theorem q_X6_checkMaker_54 {a0 : Nat} {h hE : AH} {v : Int32} (hf : b_X6_checkMaker_54 a0 h = some (v, hE)) : JD cX6_checkMaker 2 RX6 "checkMaker" (some .boolean) (3) 54 [(0, .inr (.inr (a0)))] [] h hE (some (.inl (v))) := by
  unfold b_X6_checkMaker_54 at hf
  have J := q_X6_checkMaker_59 hf
  have mE := J.1
  refine ⟨by omega, fun X g K ok nmx lev hK en => ?_⟩
  refine tj_iconst (v := 1) ok dX6_checkMaker_54 (by decide) ?_
  refine tj_goto (tgt := 59) ok dX6_checkMaker_55 (by decide) ?_
  exact J.2 X g K ok nmx lev hK en
def b_X6_checkMaker_43 (a0 : Nat) (h : AH) : Option (Int32 × AH) :=
  (g_r h a0 6 5).bind fun x1 => (g_i h x1 0 17).bind fun x2 => if x2 = (-1 : Int32) then b_X6_checkMaker_54 a0 h else b_X6_checkMaker_58 a0 h
set_option maxHeartbeats 4000000 in
set_option maxRecDepth 100000 in
theorem q_X6_checkMaker_43 {a0 : Nat} {h hE : AH} {v : Int32} (hf : b_X6_checkMaker_43 a0 h = some (v, hE)) : JD cX6_checkMaker 2 RX6 "checkMaker" (some .boolean) (3) 43 [(0, .inr (.inr (a0)))] [] h hE (some (.inl (v))) := by
  unfold b_X6_checkMaker_43 at hf
  obtain ⟨x1, e1, hf⟩ := bnd hf
  obtain ⟨x2, e2, hf⟩ := bnd hf
  have mE : hp_n h ≤ hp_n hE ∧ hp_s h ≤ hp_s hE := by
    by_cases hc : x2 = (-1 : Int32)
    · rw [if_pos hc] at hf; exact (q_X6_checkMaker_54 hf).1
    · rw [if_neg hc] at hf; exact (q_X6_checkMaker_58 hf).1
  refine ⟨by omega, fun X g K ok nmx lev hK en => ?_⟩
  refine tj_aload_n ok 0 dX6_checkMaker_43 rfl rfl ?_
  refine tj_getR (k := 5) ok fcX6 (by decide) wm_135 rfl (Or.inl ⟨_, rfl⟩) dX6_checkMaker_44 e1 ?_
  refine tj_getI (k := 17) ok fcX0 (by decide) wm_1049 rfl (Or.inl rfl) dX6_checkMaker_47 e2 ?_
  refine tj_iconst (v := -1) ok dX6_checkMaker_50 (by decide) ?_
  refine tj_icmp_ne (tgt := 58) ok dX6_checkMaker_51 (by decide) (fun hc => ?_) (fun hc => ?_)
  · rw [if_neg hc] at hf
    exact (q_X6_checkMaker_58 hf).2 X g K ok nmx lev hK en
  · rw [if_pos hc] at hf
    exact (q_X6_checkMaker_54 hf).2 X g K ok nmx lev hK en
def b_X6_checkMaker_36 (a0 : Nat) (h : AH) : Option (Int32 × AH) :=
  (g_i h a0 6 8).bind fun x1 => if x1 = 0 then b_X6_checkMaker_43 a0 h else b_X6_checkMaker_58 a0 h
set_option maxHeartbeats 4000000 in
set_option maxRecDepth 100000 in
theorem q_X6_checkMaker_36 {a0 : Nat} {h hE : AH} {v : Int32} (hf : b_X6_checkMaker_36 a0 h = some (v, hE)) : JD cX6_checkMaker 2 RX6 "checkMaker" (some .boolean) (3) 36 [(0, .inr (.inr (a0)))] [] h hE (some (.inl (v))) := by
  unfold b_X6_checkMaker_36 at hf
  obtain ⟨x1, e1, hf⟩ := bnd hf
  have mE : hp_n h ≤ hp_n hE ∧ hp_s h ≤ hp_s hE := by
    by_cases hc : x1 = 0
    · rw [if_pos hc] at hf; exact (q_X6_checkMaker_43 hf).1
    · rw [if_neg hc] at hf; exact (q_X6_checkMaker_58 hf).1
  refine ⟨by omega, fun X g K ok nmx lev hK en => ?_⟩
  refine tj_aload_n ok 0 dX6_checkMaker_36 rfl rfl ?_
  refine tj_getI (k := 8) ok fcX6 (by decide) wm_138 rfl (Or.inl rfl) dX6_checkMaker_37 e1 ?_
  refine tj_if_ne (tgt := 58) ok dX6_checkMaker_40 (by decide) (fun hc => ?_) (fun hc => ?_)
  · rw [if_neg hc] at hf
    exact (q_X6_checkMaker_58 hf).2 X g K ok nmx lev hK en
  · rw [if_pos hc] at hf
    exact (q_X6_checkMaker_43 hf).2 X g K ok nmx lev hK en
def b_X6_checkMaker_22 (a0 : Nat) (h : AH) : Option (Int32 × AH) :=
  (g_r h a0 6 5).bind fun x1 => (g_i h x1 0 16).bind fun x2 => (g_i h a0 6 6).bind fun x3 => if x2 = x3 then b_X6_checkMaker_36 a0 h else b_X6_checkMaker_58 a0 h
set_option maxHeartbeats 4000000 in
set_option maxRecDepth 100000 in
theorem q_X6_checkMaker_22 {a0 : Nat} {h hE : AH} {v : Int32} (hf : b_X6_checkMaker_22 a0 h = some (v, hE)) : JD cX6_checkMaker 2 RX6 "checkMaker" (some .boolean) (3) 22 [(0, .inr (.inr (a0)))] [] h hE (some (.inl (v))) := by
  unfold b_X6_checkMaker_22 at hf
  obtain ⟨x1, e1, hf⟩ := bnd hf
  obtain ⟨x2, e2, hf⟩ := bnd hf
  obtain ⟨x3, e3, hf⟩ := bnd hf
  have mE : hp_n h ≤ hp_n hE ∧ hp_s h ≤ hp_s hE := by
    by_cases hc : x2 = x3
    · rw [if_pos hc] at hf; exact (q_X6_checkMaker_36 hf).1
    · rw [if_neg hc] at hf; exact (q_X6_checkMaker_58 hf).1
  refine ⟨by omega, fun X g K ok nmx lev hK en => ?_⟩
  refine tj_aload_n ok 0 dX6_checkMaker_22 rfl rfl ?_
  refine tj_getR (k := 5) ok fcX6 (by decide) wm_135 rfl (Or.inl ⟨_, rfl⟩) dX6_checkMaker_23 e1 ?_
  refine tj_getI (k := 16) ok fcX0 (by decide) wm_1050 rfl (Or.inl rfl) dX6_checkMaker_26 e2 ?_
  refine tj_aload_n ok 0 dX6_checkMaker_29 rfl rfl ?_
  refine tj_getI (k := 6) ok fcX6 (by decide) wm_136 rfl (Or.inl rfl) dX6_checkMaker_30 e3 ?_
  refine tj_icmp_ne (tgt := 58) ok dX6_checkMaker_33 (by decide) (fun hc => ?_) (fun hc => ?_)
  · rw [if_neg hc] at hf
    exact (q_X6_checkMaker_58 hf).2 X g K ok nmx lev hK en
  · rw [if_pos hc] at hf
    exact (q_X6_checkMaker_36 hf).2 X g K ok nmx lev hK en
def b_X6_checkMaker_11 (a0 : Nat) (h : AH) : Option (Int32 × AH) :=
  (g_r h a0 6 5).bind fun x1 => (g_i h a0 6 6).bind fun x2 => (p_i h x1 0 16 x2).bind fun h3 => b_X6_checkMaker_22 a0 h3
set_option maxHeartbeats 4000000 in
set_option maxRecDepth 100000 in
theorem q_X6_checkMaker_11 {a0 : Nat} {h hE : AH} {v : Int32} (hf : b_X6_checkMaker_11 a0 h = some (v, hE)) : JD cX6_checkMaker 2 RX6 "checkMaker" (some .boolean) (3) 11 [(0, .inr (.inr (a0)))] [] h hE (some (.inl (v))) := by
  unfold b_X6_checkMaker_11 at hf
  obtain ⟨x1, e1, hf⟩ := bnd hf
  obtain ⟨x2, e2, hf⟩ := bnd hf
  obtain ⟨h3, e3, hf⟩ := bnd hf
  have m3 := nn_pi e3
  have J := q_X6_checkMaker_22 hf
  have mE := J.1
  refine ⟨by omega, fun X g K ok nmx lev hK en => ?_⟩
  refine tj_aload_n ok 0 dX6_checkMaker_11 rfl rfl ?_
  refine tj_getR (k := 5) ok fcX6 (by decide) wm_135 rfl (Or.inl ⟨_, rfl⟩) dX6_checkMaker_12 e1 ?_
  refine tj_aload_n ok 0 dX6_checkMaker_15 rfl rfl ?_
  refine tj_getI (k := 6) ok fcX6 (by decide) wm_136 rfl (Or.inl rfl) dX6_checkMaker_16 e2 ?_
  refine tj_putI (k := 16) ok fcX0 (by decide) wm_1050 rfl (Or.inl rfl) rfl dX6_checkMaker_19 e3 ?_
  exact J.2 X g K ok nmx lev hK en
def b_X6_checkMaker_0 (a0 : Nat) (h : AH) : Option (Int32 × AH) :=
  (g_r h a0 6 5).bind fun x1 => (g_i h x1 0 16).bind fun x2 => if x2 = (-1 : Int32) then b_X6_checkMaker_11 a0 h else b_X6_checkMaker_22 a0 h
set_option maxHeartbeats 4000000 in
set_option maxRecDepth 100000 in
theorem q_X6_checkMaker_0 {a0 : Nat} {h hE : AH} {v : Int32} (hf : b_X6_checkMaker_0 a0 h = some (v, hE)) : JD cX6_checkMaker 2 RX6 "checkMaker" (some .boolean) (3) 0 [(0, .inr (.inr (a0)))] [] h hE (some (.inl (v))) := by
  unfold b_X6_checkMaker_0 at hf
  obtain ⟨x1, e1, hf⟩ := bnd hf
  obtain ⟨x2, e2, hf⟩ := bnd hf
  have mE : hp_n h ≤ hp_n hE ∧ hp_s h ≤ hp_s hE := by
    by_cases hc : x2 = (-1 : Int32)
    · rw [if_pos hc] at hf; exact (q_X6_checkMaker_11 hf).1
    · rw [if_neg hc] at hf; exact (q_X6_checkMaker_22 hf).1
  refine ⟨by omega, fun X g K ok nmx lev hK en => ?_⟩
  refine tj_aload_n ok 0 dX6_checkMaker_0 rfl rfl ?_
  refine tj_getR (k := 5) ok fcX6 (by decide) wm_135 rfl (Or.inl ⟨_, rfl⟩) dX6_checkMaker_1 e1 ?_
  refine tj_getI (k := 16) ok fcX0 (by decide) wm_1050 rfl (Or.inl rfl) dX6_checkMaker_4 e2 ?_
  refine tj_iconst (v := -1) ok dX6_checkMaker_7 (by decide) ?_
  refine tj_icmp_ne (tgt := 22) ok dX6_checkMaker_8 (by decide) (fun hc => ?_) (fun hc => ?_)
  · rw [if_neg hc] at hf
    exact (q_X6_checkMaker_22 hf).2 X g K ok nmx lev hK en
  · rw [if_pos hc] at hf
    exact (q_X6_checkMaker_11 hf).2 X g K ok nmx lev hK en
def f_X6_checkMaker (a0 : Nat) (h : AH) : Option (Int32 × AH) := b_X6_checkMaker_0  a0 h
theorem c_X6_checkMaker {a0 : Nat} {h hE : AH} {v : Int32} (hf : f_X6_checkMaker a0 h = some (v, hE)) : ∀ g : GT, CM g (3) yX6_checkMaker cX6_checkMaker 2 (some .boolean) h [.inr (.inr (a0))] hE (some (.inl (v))) :=
  CM.ofJ (by decide) (by show _ ≤ 2; exact Nat.le_of_ble_eq_true rfl) (q_X6_checkMaker_0 hf)
/-! ===== LitmusHouse$Reader.countStatement()Z ===== -/
def b_X6_countStatement_25 (a0 : Nat) (h : AH) : Option (Int32 × AH) :=
  (g_r h a0 6 5).bind fun x1 => (g_i h x1 0 13).bind fun x2 => (p_i h x1 0 13 (x2 + (1 : Int32))).bind fun h3 => ok_z (1 : Int32) h3
set_option maxHeartbeats 4000000 in
set_option maxRecDepth 100000 in
theorem q_X6_countStatement_25 {a0 : Nat} {h hE : AH} {v : Int32} (hf : b_X6_countStatement_25 a0 h = some (v, hE)) : JD cX6_countStatement 1 RX6 "countStatement" (some .boolean) (3) 25 [(0, .inr (.inr (a0)))] [] h hE (some (.inl (v))) := by
  unfold b_X6_countStatement_25 at hf
  obtain ⟨x1, e1, hf⟩ := bnd hf
  obtain ⟨x2, e2, hf⟩ := bnd hf
  obtain ⟨h3, e3, hf⟩ := bnd hf
  have m3 := nn_pi e3
  have mE : hp_n h3 ≤ hp_n hE ∧ hp_s h3 ≤ hp_s hE := by obtain ⟨-, q⟩ := of_if hf; cases q; exact ⟨Nat.le_refl _, Nat.le_refl _⟩
  refine ⟨by omega, fun X g K ok nmx lev hK en => ?_⟩
  refine tj_aload_n ok 0 dX6_countStatement_25 rfl rfl ?_
  refine tj_getR (k := 5) ok fcX6 (by decide) wm_135 rfl (Or.inl ⟨_, rfl⟩) dX6_countStatement_26 e1 ?_
  refine tj_dupa ok dX6_countStatement_29 ?_
  refine tj_getI (k := 13) ok fcX0 (by decide) wm_1052 rfl (Or.inl rfl) dX6_countStatement_30 e2 ?_
  refine tj_iconst (v := 1) ok dX6_countStatement_33 (by decide) ?_
  refine tj_iadd ok dX6_countStatement_34 ?_
  refine tj_putI (k := 13) ok fcX0 (by decide) wm_1052 rfl (Or.inl rfl) rfl dX6_countStatement_35 e3 ?_
  refine tj_iconst (v := 1) ok dX6_countStatement_38 (by decide) ?_
  exact tj_zreturn ok hf en dX6_countStatement_39
def b_X6_countStatement_12 (a0 : Nat) (h : AH) : Option (Int32 × AH) :=
  (g_r h a0 6 2).bind fun x1 => (g_i h x1 7 2).bind fun x2 => (ok_v h a0 6).bind fun x3 => (f_X6_refuse a0 (4 : Int32) x2 h).bind fun q4 => ok_z q4.1 q4.2
set_option maxHeartbeats 4000000 in
set_option maxRecDepth 100000 in
theorem q_X6_countStatement_12 {a0 : Nat} {h hE : AH} {v : Int32} (hf : b_X6_countStatement_12 a0 h = some (v, hE)) : JD cX6_countStatement 1 RX6 "countStatement" (some .boolean) (3) 12 [(0, .inr (.inr (a0)))] [] h hE (some (.inl (v))) := by
  unfold b_X6_countStatement_12 at hf
  obtain ⟨x1, e1, hf⟩ := bnd hf
  obtain ⟨x2, e2, hf⟩ := bnd hf
  obtain ⟨x3, e3, hf⟩ := bnd hf
  obtain ⟨⟨x4, h4⟩, e4, hf⟩ := bnd hf
  try dsimp only at hf
  have k4 := c_X6_refuse e4
  have m4 := (k4 default_g).1
  have mE : hp_n h4 ≤ hp_n hE ∧ hp_s h4 ≤ hp_s hE := by obtain ⟨-, q⟩ := of_if hf; cases q; exact ⟨Nat.le_refl _, Nat.le_refl _⟩
  refine ⟨by omega, fun X g K ok nmx lev hK en => ?_⟩
  refine tj_aload_n ok 0 dX6_countStatement_12 rfl rfl ?_
  refine tj_iconst (v := 4) ok dX6_countStatement_13 (by decide) ?_
  refine tj_aload_n ok 0 dX6_countStatement_14 rfl rfl ?_
  refine tj_getR (k := 2) ok fcX6 (by decide) wm_132 rfl (Or.inl ⟨_, rfl⟩) dX6_countStatement_15 e1 ?_
  refine tj_getI (k := 2) ok fcX7 (by decide) wm_1040 rfl (Or.inl rfl) dX6_countStatement_18 e2 ?_
  refine tj_callV (rest := ([] : List TV).map (vl g)) (as := [.inl ((4 : Int32)), .inl (x2)]) ok lev (by omega) fcX6.1 (by decide) rfl (of_if e3).1 (k4 g) (CaX.of en (by omega)) kn_X6_refuse wm_1041 wm_1042 wm_1043 (rs_ok (Nat.le_of_ble_eq_true rfl)) rfl rfl dX6_countStatement_21 ?_
  exact tj_zreturn ok hf en dX6_countStatement_24
def b_X6_countStatement_0 (a0 : Nat) (h : AH) : Option (Int32 × AH) :=
  (g_r h a0 6 5).bind fun x1 => (g_i h x1 0 13).bind fun x2 => if x2 < (20 : Int32) then b_X6_countStatement_25 a0 h else b_X6_countStatement_12 a0 h
set_option maxHeartbeats 4000000 in
set_option maxRecDepth 100000 in
theorem q_X6_countStatement_0 {a0 : Nat} {h hE : AH} {v : Int32} (hf : b_X6_countStatement_0 a0 h = some (v, hE)) : JD cX6_countStatement 1 RX6 "countStatement" (some .boolean) (3) 0 [(0, .inr (.inr (a0)))] [] h hE (some (.inl (v))) := by
  unfold b_X6_countStatement_0 at hf
  obtain ⟨x1, e1, hf⟩ := bnd hf
  obtain ⟨x2, e2, hf⟩ := bnd hf
  have mE : hp_n h ≤ hp_n hE ∧ hp_s h ≤ hp_s hE := by
    by_cases hc : x2 < (20 : Int32)
    · rw [if_pos hc] at hf; exact (q_X6_countStatement_25 hf).1
    · rw [if_neg hc] at hf; exact (q_X6_countStatement_12 hf).1
  refine ⟨by omega, fun X g K ok nmx lev hK en => ?_⟩
  refine tj_aload_n ok 0 dX6_countStatement_0 rfl rfl ?_
  refine tj_getR (k := 5) ok fcX6 (by decide) wm_135 rfl (Or.inl ⟨_, rfl⟩) dX6_countStatement_1 e1 ?_
  refine tj_getI (k := 13) ok fcX0 (by decide) wm_1052 rfl (Or.inl rfl) dX6_countStatement_4 e2 ?_
  refine tj_bipush (v := 20) ok dX6_countStatement_7 (by decide) ?_
  refine tj_icmp_lt (tgt := 25) ok dX6_countStatement_9 (by decide) (fun hc => ?_) (fun hc => ?_)
  · rw [if_pos hc] at hf
    exact (q_X6_countStatement_25 hf).2 X g K ok nmx lev hK en
  · rw [if_neg hc] at hf
    exact (q_X6_countStatement_12 hf).2 X g K ok nmx lev hK en
def f_X6_countStatement (a0 : Nat) (h : AH) : Option (Int32 × AH) := b_X6_countStatement_0  a0 h
theorem c_X6_countStatement {a0 : Nat} {h hE : AH} {v : Int32} (hf : f_X6_countStatement a0 h = some (v, hE)) : ∀ g : GT, CM g (3) yX6_countStatement cX6_countStatement 1 (some .boolean) h [.inr (.inr (a0))] hE (some (.inl (v))) :=
  CM.ofJ (by decide) (by show _ ≤ 1; exact Nat.le_of_ble_eq_true rfl) (q_X6_countStatement_0 hf)
/-! ===== LitmusHouse$Reader.kindOfWord(I)I ===== -/
def b_X6_kindOfWord_28  (h : AH) : Option (Int32 × AH) :=
  some ((0 : Int32), h)
set_option maxHeartbeats 4000000 in
set_option maxRecDepth 100000 in
theorem q_X6_kindOfWord_28 {h hE : AH} {v : Int32} (hf : b_X6_kindOfWord_28  h = some (v, hE)) : JD cX6_kindOfWord 1 RX6 "kindOfWord" (some .int) (2) 28 [] [] h hE (some (.inl (v))) := by
  unfold b_X6_kindOfWord_28 at hf
  obtain ⟨hv, hh⟩ := Prod.mk.inj (Option.some.inj hf)
  subst hv
  subst hh
  have mE : hp_n h ≤ hp_n h ∧ hp_s h ≤ hp_s h := ⟨Nat.le_refl _, Nat.le_refl _⟩
  refine ⟨by omega, fun X g K ok nmx lev hK en => ?_⟩
  refine tj_iconst (v := 0) ok dX6_kindOfWord_28 (by decide) ?_
  exact tj_ireturn ok en dX6_kindOfWord_29
def b_X6_kindOfWord_30  (h : AH) : Option (Int32 × AH) :=
  some ((1 : Int32), h)
set_option maxHeartbeats 4000000 in
set_option maxRecDepth 100000 in
theorem q_X6_kindOfWord_30 {h hE : AH} {v : Int32} (hf : b_X6_kindOfWord_30  h = some (v, hE)) : JD cX6_kindOfWord 1 RX6 "kindOfWord" (some .int) (2) 30 [] [] h hE (some (.inl (v))) := by
  unfold b_X6_kindOfWord_30 at hf
  obtain ⟨hv, hh⟩ := Prod.mk.inj (Option.some.inj hf)
  subst hv
  subst hh
  have mE : hp_n h ≤ hp_n h ∧ hp_s h ≤ hp_s h := ⟨Nat.le_refl _, Nat.le_refl _⟩
  refine ⟨by omega, fun X g K ok nmx lev hK en => ?_⟩
  refine tj_iconst (v := 1) ok dX6_kindOfWord_30 (by decide) ?_
  exact tj_ireturn ok en dX6_kindOfWord_31
def b_X6_kindOfWord_32  (h : AH) : Option (Int32 × AH) :=
  some ((2 : Int32), h)
set_option maxHeartbeats 4000000 in
set_option maxRecDepth 100000 in
theorem q_X6_kindOfWord_32 {h hE : AH} {v : Int32} (hf : b_X6_kindOfWord_32  h = some (v, hE)) : JD cX6_kindOfWord 1 RX6 "kindOfWord" (some .int) (2) 32 [] [] h hE (some (.inl (v))) := by
  unfold b_X6_kindOfWord_32 at hf
  obtain ⟨hv, hh⟩ := Prod.mk.inj (Option.some.inj hf)
  subst hv
  subst hh
  have mE : hp_n h ≤ hp_n h ∧ hp_s h ≤ hp_s h := ⟨Nat.le_refl _, Nat.le_refl _⟩
  refine ⟨by omega, fun X g K ok nmx lev hK en => ?_⟩
  refine tj_iconst (v := 2) ok dX6_kindOfWord_32 (by decide) ?_
  exact tj_ireturn ok en dX6_kindOfWord_33
def b_X6_kindOfWord_34  (h : AH) : Option (Int32 × AH) :=
  some ((-1 : Int32), h)
set_option maxHeartbeats 4000000 in
set_option maxRecDepth 100000 in
theorem q_X6_kindOfWord_34 {h hE : AH} {v : Int32} (hf : b_X6_kindOfWord_34  h = some (v, hE)) : JD cX6_kindOfWord 1 RX6 "kindOfWord" (some .int) (2) 34 [] [] h hE (some (.inl (v))) := by
  unfold b_X6_kindOfWord_34 at hf
  obtain ⟨hv, hh⟩ := Prod.mk.inj (Option.some.inj hf)
  subst hv
  subst hh
  have mE : hp_n h ≤ hp_n h ∧ hp_s h ≤ hp_s h := ⟨Nat.le_refl _, Nat.le_refl _⟩
  refine ⟨by omega, fun X g K ok nmx lev hK en => ?_⟩
  refine tj_iconst (v := -1) ok dX6_kindOfWord_34 (by decide) ?_
  exact tj_ireturn ok en dX6_kindOfWord_35
def b_X6_kindOfWord_0 (a0 : Int32) (h : AH) : Option (Int32 × AH) :=
  if a0 = 2 then b_X6_kindOfWord_28 h else if a0 = 3 then b_X6_kindOfWord_30 h else if a0 = 4 then b_X6_kindOfWord_32 h else b_X6_kindOfWord_34 h
set_option maxHeartbeats 4000000 in
set_option maxRecDepth 100000 in
theorem q_X6_kindOfWord_0 {a0 : Int32} {h hE : AH} {v : Int32} (hf : b_X6_kindOfWord_0 a0 h = some (v, hE)) : JD cX6_kindOfWord 1 RX6 "kindOfWord" (some .int) (2) 0 [(0, .inl (a0))] [] h hE (some (.inl (v))) := by
  unfold b_X6_kindOfWord_0 at hf
  have mE : hp_n h ≤ hp_n hE ∧ hp_s h ≤ hp_s hE := by
    by_cases hc0 : a0 = 2
    · rw [if_pos hc0] at hf; exact (q_X6_kindOfWord_28 hf).1
    rw [if_neg hc0] at hf
    by_cases hc1 : a0 = 3
    · rw [if_pos hc1] at hf; exact (q_X6_kindOfWord_30 hf).1
    rw [if_neg hc1] at hf
    by_cases hc2 : a0 = 4
    · rw [if_pos hc2] at hf; exact (q_X6_kindOfWord_32 hf).1
    rw [if_neg hc2] at hf
    exact (q_X6_kindOfWord_34 hf).1
  refine ⟨by omega, fun X g K ok nmx lev hK en => ?_⟩
  refine tj_iload_n ok 0 dX6_kindOfWord_0 rfl rfl ?_
  by_cases hc0 : a0 = 2
  · rw [if_pos hc0] at hf
    have hx : (a0).toInt = 2 := by rw [hc0]; decide
    refine tj_tabIn (off := 27) (tgt := 28) ok dX6_kindOfWord_1 (by rw [hx]; decide) (by rw [hx]; decide) (by rw [hx]; decide) (by decide) ?_
    refine tj_sub (lv' := []) [] rfl ?_
    exact (q_X6_kindOfWord_28 hf).2 X g K ok nmx lev hK en
  rw [if_neg hc0] at hf
  have hn0 := tn_i (n := 2) (by decide) hc0
  have hp0 := tn_j hn0
  by_cases hc1 : a0 = 3
  · rw [if_pos hc1] at hf
    have hx : (a0).toInt = 3 := by rw [hc1]; decide
    refine tj_tabIn (off := 29) (tgt := 30) ok dX6_kindOfWord_1 (by rw [hx]; decide) (by rw [hx]; decide) (by rw [hx]; decide) (by decide) ?_
    refine tj_sub (lv' := []) [] rfl ?_
    exact (q_X6_kindOfWord_30 hf).2 X g K ok nmx lev hK en
  rw [if_neg hc1] at hf
  have hn1 := tn_i (n := 3) (by decide) hc1
  have hp1 := tn_j hn1
  by_cases hc2 : a0 = 4
  · rw [if_pos hc2] at hf
    have hx : (a0).toInt = 4 := by rw [hc2]; decide
    refine tj_tabIn (off := 31) (tgt := 32) ok dX6_kindOfWord_1 (by rw [hx]; decide) (by rw [hx]; decide) (by rw [hx]; decide) (by decide) ?_
    refine tj_sub (lv' := []) [] rfl ?_
    exact (q_X6_kindOfWord_32 hf).2 X g K ok nmx lev hK en
  rw [if_neg hc2] at hf
  have hn2 := tn_i (n := 4) (by decide) hc2
  have hp2 := tn_j hn2
  refine tj_tabOut (tgt := 34) ok dX6_kindOfWord_1 (by omega) (by decide) ?_
  refine tj_sub (lv' := []) [] rfl ?_
  exact (q_X6_kindOfWord_34 hf).2 X g K ok nmx lev hK en
def f_X6_kindOfWord (a0 : Int32) (h : AH) : Option (Int32 × AH) := b_X6_kindOfWord_0  a0 h
theorem c_X6_kindOfWord {a0 : Int32} {h hE : AH} {v : Int32} (hf : f_X6_kindOfWord a0 h = some (v, hE)) : ∀ g : GT, CM g (2) yX6_kindOfWord cX6_kindOfWord 1 (some .int) h [.inl (a0)] hE (some (.inl (v))) :=
  CM.ofJ (by decide) (by show _ ≤ 1; exact Nat.le_of_ble_eq_true rfl) (q_X6_kindOfWord_0 hf)
/-! ===== LitmusHouse$Reader.mayAct()Z ===== -/
def b_X6_mayAct_32 (s0 : Int32) (h : AH) : Option (Int32 × AH) :=
  ok_z s0 h
set_option maxHeartbeats 4000000 in
set_option maxRecDepth 100000 in
theorem q_X6_mayAct_32 {s0 : Int32} {h hE : AH} {v : Int32} (hf : b_X6_mayAct_32 s0 h = some (v, hE)) : JD cX6_mayAct 1 RX6 "mayAct" (some .boolean) (3) 32 [] [.inl (s0)] h hE (some (.inl (v))) := by
  unfold b_X6_mayAct_32 at hf
  have mE : hp_n h ≤ hp_n hE ∧ hp_s h ≤ hp_s hE := by obtain ⟨-, q⟩ := of_if hf; cases q; exact ⟨Nat.le_refl _, Nat.le_refl _⟩
  refine ⟨by omega, fun X g K ok nmx lev hK en => ?_⟩
  exact tj_zreturn ok hf en dX6_mayAct_32
def b_X6_mayAct_27  (h : AH) : Option (Int32 × AH) :=
  b_X6_mayAct_32 (1 : Int32) h
set_option maxHeartbeats 4000000 in
set_option maxRecDepth 100000 in
theorem q_X6_mayAct_27 {h hE : AH} {v : Int32} (hf : b_X6_mayAct_27  h = some (v, hE)) : JD cX6_mayAct 1 RX6 "mayAct" (some .boolean) (3) 27 [] [] h hE (some (.inl (v))) := by
  unfold b_X6_mayAct_27 at hf
  have J := q_X6_mayAct_32 hf
  have mE := J.1
  refine ⟨by omega, fun X g K ok nmx lev hK en => ?_⟩
  refine tj_iconst (v := 1) ok dX6_mayAct_27 (by decide) ?_
  refine tj_goto (tgt := 32) ok dX6_mayAct_28 (by decide) ?_
  exact J.2 X g K ok nmx lev hK en
def b_X6_mayAct_31  (h : AH) : Option (Int32 × AH) :=
  b_X6_mayAct_32 (0 : Int32) h
set_option maxHeartbeats 4000000 in
set_option maxRecDepth 100000 in
theorem q_X6_mayAct_31 {h hE : AH} {v : Int32} (hf : b_X6_mayAct_31  h = some (v, hE)) : JD cX6_mayAct 1 RX6 "mayAct" (some .boolean) (3) 31 [] [] h hE (some (.inl (v))) := by
  unfold b_X6_mayAct_31 at hf
  have J := q_X6_mayAct_32 hf
  have mE := J.1
  refine ⟨by omega, fun X g K ok nmx lev hK en => ?_⟩
  refine tj_iconst (v := 0) ok dX6_mayAct_31 (by decide) ?_
  exact J.2 X g K ok nmx lev hK en
def b_X6_mayAct_12 (a0 : Nat) (h : AH) : Option (Int32 × AH) :=
  (g_r h a0 6 2).bind fun x1 => (g_i h x1 7 2).bind fun x2 => (ok_v h a0 6).bind fun x3 => (f_X6_refuse a0 (4 : Int32) x2 h).bind fun q4 => if q4.1 = 0 then b_X6_mayAct_31 q4.2 else b_X6_mayAct_27 q4.2
set_option maxHeartbeats 4000000 in
set_option maxRecDepth 100000 in
theorem q_X6_mayAct_12 {a0 : Nat} {h hE : AH} {v : Int32} (hf : b_X6_mayAct_12 a0 h = some (v, hE)) : JD cX6_mayAct 1 RX6 "mayAct" (some .boolean) (3) 12 [(0, .inr (.inr (a0)))] [] h hE (some (.inl (v))) := by
  unfold b_X6_mayAct_12 at hf
  obtain ⟨x1, e1, hf⟩ := bnd hf
  obtain ⟨x2, e2, hf⟩ := bnd hf
  obtain ⟨x3, e3, hf⟩ := bnd hf
  obtain ⟨⟨x4, h4⟩, e4, hf⟩ := bnd hf
  try dsimp only at hf
  have k4 := c_X6_refuse e4
  have m4 := (k4 default_g).1
  have mE : hp_n h4 ≤ hp_n hE ∧ hp_s h4 ≤ hp_s hE := by
    by_cases hc : x4 = 0
    · rw [if_pos hc] at hf; exact (q_X6_mayAct_31 hf).1
    · rw [if_neg hc] at hf; exact (q_X6_mayAct_27 hf).1
  refine ⟨by omega, fun X g K ok nmx lev hK en => ?_⟩
  refine tj_aload_n ok 0 dX6_mayAct_12 rfl rfl ?_
  refine tj_iconst (v := 4) ok dX6_mayAct_13 (by decide) ?_
  refine tj_aload_n ok 0 dX6_mayAct_14 rfl rfl ?_
  refine tj_getR (k := 2) ok fcX6 (by decide) wm_132 rfl (Or.inl ⟨_, rfl⟩) dX6_mayAct_15 e1 ?_
  refine tj_getI (k := 2) ok fcX7 (by decide) wm_1040 rfl (Or.inl rfl) dX6_mayAct_18 e2 ?_
  refine tj_callV (rest := ([] : List TV).map (vl g)) (as := [.inl ((4 : Int32)), .inl (x2)]) ok lev (by omega) fcX6.1 (by decide) rfl (of_if e3).1 (k4 g) (CaX.of en (by omega)) kn_X6_refuse wm_1041 wm_1042 wm_1043 (rs_ok (Nat.le_of_ble_eq_true rfl)) rfl rfl dX6_mayAct_21 ?_
  refine tj_if_eq (tgt := 31) ok dX6_mayAct_24 (by decide) (fun hc => ?_) (fun hc => ?_)
  · rw [if_pos hc] at hf
    refine tj_sub (lv' := []) [] rfl ?_
    exact (q_X6_mayAct_31 hf).2 X g K ok nmx lev hK en
  · rw [if_neg hc] at hf
    refine tj_sub (lv' := []) [] rfl ?_
    exact (q_X6_mayAct_27 hf).2 X g K ok nmx lev hK en
def b_X6_mayAct_0 (a0 : Nat) (h : AH) : Option (Int32 × AH) :=
  (g_r h a0 6 5).bind fun x1 => (g_i h x1 0 12).bind fun x2 => if x2 < (8 : Int32) then b_X6_mayAct_27 h else b_X6_mayAct_12 a0 h
set_option maxHeartbeats 4000000 in
set_option maxRecDepth 100000 in
theorem q_X6_mayAct_0 {a0 : Nat} {h hE : AH} {v : Int32} (hf : b_X6_mayAct_0 a0 h = some (v, hE)) : JD cX6_mayAct 1 RX6 "mayAct" (some .boolean) (3) 0 [(0, .inr (.inr (a0)))] [] h hE (some (.inl (v))) := by
  unfold b_X6_mayAct_0 at hf
  obtain ⟨x1, e1, hf⟩ := bnd hf
  obtain ⟨x2, e2, hf⟩ := bnd hf
  have mE : hp_n h ≤ hp_n hE ∧ hp_s h ≤ hp_s hE := by
    by_cases hc : x2 < (8 : Int32)
    · rw [if_pos hc] at hf; exact (q_X6_mayAct_27 hf).1
    · rw [if_neg hc] at hf; exact (q_X6_mayAct_12 hf).1
  refine ⟨by omega, fun X g K ok nmx lev hK en => ?_⟩
  refine tj_aload_n ok 0 dX6_mayAct_0 rfl rfl ?_
  refine tj_getR (k := 5) ok fcX6 (by decide) wm_135 rfl (Or.inl ⟨_, rfl⟩) dX6_mayAct_1 e1 ?_
  refine tj_getI (k := 12) ok fcX0 (by decide) wm_1055 rfl (Or.inl rfl) dX6_mayAct_4 e2 ?_
  refine tj_bipush (v := 8) ok dX6_mayAct_7 (by decide) ?_
  refine tj_icmp_lt (tgt := 27) ok dX6_mayAct_9 (by decide) (fun hc => ?_) (fun hc => ?_)
  · rw [if_pos hc] at hf
    refine tj_sub (lv' := []) [] rfl ?_
    exact (q_X6_mayAct_27 hf).2 X g K ok nmx lev hK en
  · rw [if_neg hc] at hf
    exact (q_X6_mayAct_12 hf).2 X g K ok nmx lev hK en
def f_X6_mayAct (a0 : Nat) (h : AH) : Option (Int32 × AH) := b_X6_mayAct_0  a0 h
theorem c_X6_mayAct {a0 : Nat} {h hE : AH} {v : Int32} (hf : f_X6_mayAct a0 h = some (v, hE)) : ∀ g : GT, CM g (3) yX6_mayAct cX6_mayAct 1 (some .boolean) h [.inr (.inr (a0))] hE (some (.inl (v))) :=
  CM.ofJ (by decide) (by show _ ≤ 1; exact Nat.le_of_ble_eq_true rfl) (q_X6_mayAct_0 hf)
/-! ===== LitmusHouse$Reader.openThread()Z ===== -/
def b_X6_openThread_24 (a0 : Nat) (h : AH) : Option (Int32 × AH) :=
  (g_r h a0 6 5).bind fun x1 => (g_i h x1 0 11).bind fun x2 => (p_i h a0 6 6 x2).bind fun h3 => (g_r h3 a0 6 5).bind fun x4 => (g_r h3 x4 0 7).bind fun x5 => (g_i h3 a0 6 6).bind fun x6 => (g_r h3 a0 6 5).bind fun x7 => (g_i h3 x7 0 10).bind fun x8 => (s_i h3 x5 x6 x8).bind fun h9 => (g_r h9 a0 6 5).bind fun x10 => (g_i h9 x10 0 11).bind fun x11 => (p_i h9 x10 0 11 (x11 + (1 : Int32))).bind fun h12 => (p_i h12 a0 6 7 (0 : Int32)).bind fun h13 => (g_r h13 a0 6 2).bind fun x14 => (ok_v h13 x14 7).bind fun x15 => (f_X7_advance x14 h13).bind fun h16 => ok_z (1 : Int32) h16
set_option maxHeartbeats 4000000 in
set_option maxRecDepth 100000 in
theorem q_X6_openThread_24 {a0 : Nat} {h hE : AH} {v : Int32} (hf : b_X6_openThread_24 a0 h = some (v, hE)) : JD cX6_openThread 1 RX6 "openThread" (some .boolean) (3) 24 [(0, .inr (.inr (a0)))] [] h hE (some (.inl (v))) := by
  unfold b_X6_openThread_24 at hf
  obtain ⟨x1, e1, hf⟩ := bnd hf
  obtain ⟨x2, e2, hf⟩ := bnd hf
  obtain ⟨h3, e3, hf⟩ := bnd hf
  have m3 := nn_pi e3
  obtain ⟨x4, e4, hf⟩ := bnd hf
  obtain ⟨x5, e5, hf⟩ := bnd hf
  obtain ⟨x6, e6, hf⟩ := bnd hf
  obtain ⟨x7, e7, hf⟩ := bnd hf
  obtain ⟨x8, e8, hf⟩ := bnd hf
  obtain ⟨h9, e9, hf⟩ := bnd hf
  have m9 := nn_si e9
  obtain ⟨x10, e10, hf⟩ := bnd hf
  obtain ⟨x11, e11, hf⟩ := bnd hf
  obtain ⟨h12, e12, hf⟩ := bnd hf
  have m12 := nn_pi e12
  obtain ⟨h13, e13, hf⟩ := bnd hf
  have m13 := nn_pi e13
  obtain ⟨x14, e14, hf⟩ := bnd hf
  obtain ⟨x15, e15, hf⟩ := bnd hf
  obtain ⟨h16, e16, hf⟩ := bnd hf
  have k16 := c_X7_advance e16
  have m16 := (k16 default_g).1
  have mE : hp_n h16 ≤ hp_n hE ∧ hp_s h16 ≤ hp_s hE := by obtain ⟨-, q⟩ := of_if hf; cases q; exact ⟨Nat.le_refl _, Nat.le_refl _⟩
  refine ⟨by omega, fun X g K ok nmx lev hK en => ?_⟩
  refine tj_aload_n ok 0 dX6_openThread_24 rfl rfl ?_
  refine tj_aload_n ok 0 dX6_openThread_25 rfl rfl ?_
  refine tj_getR (k := 5) ok fcX6 (by decide) wm_135 rfl (Or.inl ⟨_, rfl⟩) dX6_openThread_26 e1 ?_
  refine tj_getI (k := 11) ok fcX0 (by decide) wm_1057 rfl (Or.inl rfl) dX6_openThread_29 e2 ?_
  refine tj_putI (k := 6) ok fcX6 (by decide) wm_136 rfl (Or.inl rfl) rfl dX6_openThread_32 e3 ?_
  refine tj_aload_n ok 0 dX6_openThread_35 rfl rfl ?_
  refine tj_getR (k := 5) ok fcX6 (by decide) wm_135 rfl (Or.inl ⟨_, rfl⟩) dX6_openThread_36 e4 ?_
  refine tj_getR (k := 7) ok fcX0 (by decide) wm_1058 rfl (Or.inr ⟨_, rfl⟩) dX6_openThread_39 e5 ?_
  refine tj_aload_n ok 0 dX6_openThread_42 rfl rfl ?_
  refine tj_getI (k := 6) ok fcX6 (by decide) wm_136 rfl (Or.inl rfl) dX6_openThread_43 e6 ?_
  refine tj_aload_n ok 0 dX6_openThread_46 rfl rfl ?_
  refine tj_getR (k := 5) ok fcX6 (by decide) wm_135 rfl (Or.inl ⟨_, rfl⟩) dX6_openThread_47 e7 ?_
  refine tj_getI (k := 10) ok fcX0 (by decide) wm_1059 rfl (Or.inl rfl) dX6_openThread_50 e8 ?_
  refine tj_iastore ok dX6_openThread_53 e9 ?_
  refine tj_aload_n ok 0 dX6_openThread_54 rfl rfl ?_
  refine tj_getR (k := 5) ok fcX6 (by decide) wm_135 rfl (Or.inl ⟨_, rfl⟩) dX6_openThread_55 e10 ?_
  refine tj_dupa ok dX6_openThread_58 ?_
  refine tj_getI (k := 11) ok fcX0 (by decide) wm_1057 rfl (Or.inl rfl) dX6_openThread_59 e11 ?_
  refine tj_iconst (v := 1) ok dX6_openThread_62 (by decide) ?_
  refine tj_iadd ok dX6_openThread_63 ?_
  refine tj_putI (k := 11) ok fcX0 (by decide) wm_1057 rfl (Or.inl rfl) rfl dX6_openThread_64 e12 ?_
  refine tj_aload_n ok 0 dX6_openThread_67 rfl rfl ?_
  refine tj_iconst (v := 0) ok dX6_openThread_68 (by decide) ?_
  refine tj_putI (k := 7) ok fcX6 (by decide) wm_137 rfl (Or.inl rfl) rfl dX6_openThread_69 e13 ?_
  refine tj_aload_n ok 0 dX6_openThread_72 rfl rfl ?_
  refine tj_getR (k := 2) ok fcX6 (by decide) wm_132 rfl (Or.inl ⟨_, rfl⟩) dX6_openThread_73 e14 ?_
  refine tj_callV (rest := ([] : List TV).map (vl g)) (as := []) ok lev (by omega) fcX7.1 (by decide) rfl (of_if e15).1 (k16 g) (CaX.of en (by omega)) kn_X7_advance wm_1060 wm_1025 wm_1026 (rs_ok (Nat.le_of_ble_eq_true rfl)) rfl rfl dX6_openThread_76 ?_
  refine tj_iconst (v := 1) ok dX6_openThread_79 (by decide) ?_
  exact tj_zreturn ok hf en dX6_openThread_80
def b_X6_openThread_11 (a0 : Nat) (h : AH) : Option (Int32 × AH) :=
  (g_r h a0 6 2).bind fun x1 => (g_i h x1 7 2).bind fun x2 => (ok_v h a0 6).bind fun x3 => (f_X6_refuse a0 (4 : Int32) x2 h).bind fun q4 => ok_z q4.1 q4.2
set_option maxHeartbeats 4000000 in
set_option maxRecDepth 100000 in
theorem q_X6_openThread_11 {a0 : Nat} {h hE : AH} {v : Int32} (hf : b_X6_openThread_11 a0 h = some (v, hE)) : JD cX6_openThread 1 RX6 "openThread" (some .boolean) (3) 11 [(0, .inr (.inr (a0)))] [] h hE (some (.inl (v))) := by
  unfold b_X6_openThread_11 at hf
  obtain ⟨x1, e1, hf⟩ := bnd hf
  obtain ⟨x2, e2, hf⟩ := bnd hf
  obtain ⟨x3, e3, hf⟩ := bnd hf
  obtain ⟨⟨x4, h4⟩, e4, hf⟩ := bnd hf
  try dsimp only at hf
  have k4 := c_X6_refuse e4
  have m4 := (k4 default_g).1
  have mE : hp_n h4 ≤ hp_n hE ∧ hp_s h4 ≤ hp_s hE := by obtain ⟨-, q⟩ := of_if hf; cases q; exact ⟨Nat.le_refl _, Nat.le_refl _⟩
  refine ⟨by omega, fun X g K ok nmx lev hK en => ?_⟩
  refine tj_aload_n ok 0 dX6_openThread_11 rfl rfl ?_
  refine tj_iconst (v := 4) ok dX6_openThread_12 (by decide) ?_
  refine tj_aload_n ok 0 dX6_openThread_13 rfl rfl ?_
  refine tj_getR (k := 2) ok fcX6 (by decide) wm_132 rfl (Or.inl ⟨_, rfl⟩) dX6_openThread_14 e1 ?_
  refine tj_getI (k := 2) ok fcX7 (by decide) wm_1040 rfl (Or.inl rfl) dX6_openThread_17 e2 ?_
  refine tj_callV (rest := ([] : List TV).map (vl g)) (as := [.inl ((4 : Int32)), .inl (x2)]) ok lev (by omega) fcX6.1 (by decide) rfl (of_if e3).1 (k4 g) (CaX.of en (by omega)) kn_X6_refuse wm_1041 wm_1042 wm_1043 (rs_ok (Nat.le_of_ble_eq_true rfl)) rfl rfl dX6_openThread_20 ?_
  exact tj_zreturn ok hf en dX6_openThread_23
def b_X6_openThread_0 (a0 : Nat) (h : AH) : Option (Int32 × AH) :=
  (g_r h a0 6 5).bind fun x1 => (g_i h x1 0 11).bind fun x2 => if x2 < (4 : Int32) then b_X6_openThread_24 a0 h else b_X6_openThread_11 a0 h
set_option maxHeartbeats 4000000 in
set_option maxRecDepth 100000 in
theorem q_X6_openThread_0 {a0 : Nat} {h hE : AH} {v : Int32} (hf : b_X6_openThread_0 a0 h = some (v, hE)) : JD cX6_openThread 1 RX6 "openThread" (some .boolean) (3) 0 [(0, .inr (.inr (a0)))] [] h hE (some (.inl (v))) := by
  unfold b_X6_openThread_0 at hf
  obtain ⟨x1, e1, hf⟩ := bnd hf
  obtain ⟨x2, e2, hf⟩ := bnd hf
  have mE : hp_n h ≤ hp_n hE ∧ hp_s h ≤ hp_s hE := by
    by_cases hc : x2 < (4 : Int32)
    · rw [if_pos hc] at hf; exact (q_X6_openThread_24 hf).1
    · rw [if_neg hc] at hf; exact (q_X6_openThread_11 hf).1
  refine ⟨by omega, fun X g K ok nmx lev hK en => ?_⟩
  refine tj_aload_n ok 0 dX6_openThread_0 rfl rfl ?_
  refine tj_getR (k := 5) ok fcX6 (by decide) wm_135 rfl (Or.inl ⟨_, rfl⟩) dX6_openThread_1 e1 ?_
  refine tj_getI (k := 11) ok fcX0 (by decide) wm_1057 rfl (Or.inl rfl) dX6_openThread_4 e2 ?_
  refine tj_iconst (v := 4) ok dX6_openThread_7 (by decide) ?_
  refine tj_icmp_lt (tgt := 24) ok dX6_openThread_8 (by decide) (fun hc => ?_) (fun hc => ?_)
  · rw [if_pos hc] at hf
    exact (q_X6_openThread_24 hf).2 X g K ok nmx lev hK en
  · rw [if_neg hc] at hf
    exact (q_X6_openThread_11 hf).2 X g K ok nmx lev hK en
def f_X6_openThread (a0 : Nat) (h : AH) : Option (Int32 × AH) := b_X6_openThread_0  a0 h
theorem c_X6_openThread {a0 : Nat} {h hE : AH} {v : Int32} (hf : f_X6_openThread a0 h = some (v, hE)) : ∀ g : GT, CM g (3) yX6_openThread cX6_openThread 1 (some .boolean) h [.inr (.inr (a0))] hE (some (.inl (v))) :=
  CM.ofJ (by decide) (by show _ ≤ 1; exact Nat.le_of_ble_eq_true rfl) (q_X6_openThread_0 hf)
/-! ===== LitmusHouse$Reader.pass(I)Z ===== -/
def b_X6_pass_24 (a0 : Nat) (h : AH) : Option (Int32 × AH) :=
  (g_r h a0 6 2).bind fun x1 => (ok_v h x1 7).bind fun x2 => (f_X7_advance x1 h).bind fun h3 => ok_z (1 : Int32) h3
set_option maxHeartbeats 4000000 in
set_option maxRecDepth 100000 in
theorem q_X6_pass_24 {a0 : Nat} {h hE : AH} {v : Int32} (hf : b_X6_pass_24 a0 h = some (v, hE)) : JD cX6_pass 2 RX6 "pass" (some .boolean) (3) 24 [(0, .inr (.inr (a0)))] [] h hE (some (.inl (v))) := by
  unfold b_X6_pass_24 at hf
  obtain ⟨x1, e1, hf⟩ := bnd hf
  obtain ⟨x2, e2, hf⟩ := bnd hf
  obtain ⟨h3, e3, hf⟩ := bnd hf
  have k3 := c_X7_advance e3
  have m3 := (k3 default_g).1
  have mE : hp_n h3 ≤ hp_n hE ∧ hp_s h3 ≤ hp_s hE := by obtain ⟨-, q⟩ := of_if hf; cases q; exact ⟨Nat.le_refl _, Nat.le_refl _⟩
  refine ⟨by omega, fun X g K ok nmx lev hK en => ?_⟩
  refine tj_aload_n ok 0 dX6_pass_24 rfl rfl ?_
  refine tj_getR (k := 2) ok fcX6 (by decide) wm_132 rfl (Or.inl ⟨_, rfl⟩) dX6_pass_25 e1 ?_
  refine tj_callV (rest := ([] : List TV).map (vl g)) (as := []) ok lev (by omega) fcX7.1 (by decide) rfl (of_if e2).1 (k3 g) (CaX.of en (by omega)) kn_X7_advance wm_1060 wm_1025 wm_1026 (rs_ok (Nat.le_of_ble_eq_true rfl)) rfl rfl dX6_pass_28 ?_
  refine tj_iconst (v := 1) ok dX6_pass_31 (by decide) ?_
  exact tj_zreturn ok hf en dX6_pass_32
def b_X6_pass_11 (a0 : Nat) (h : AH) : Option (Int32 × AH) :=
  (g_r h a0 6 2).bind fun x1 => (g_i h x1 7 2).bind fun x2 => (ok_v h a0 6).bind fun x3 => (f_X6_refuse a0 (1 : Int32) x2 h).bind fun q4 => ok_z q4.1 q4.2
set_option maxHeartbeats 4000000 in
set_option maxRecDepth 100000 in
theorem q_X6_pass_11 {a0 : Nat} {h hE : AH} {v : Int32} (hf : b_X6_pass_11 a0 h = some (v, hE)) : JD cX6_pass 2 RX6 "pass" (some .boolean) (3) 11 [(0, .inr (.inr (a0)))] [] h hE (some (.inl (v))) := by
  unfold b_X6_pass_11 at hf
  obtain ⟨x1, e1, hf⟩ := bnd hf
  obtain ⟨x2, e2, hf⟩ := bnd hf
  obtain ⟨x3, e3, hf⟩ := bnd hf
  obtain ⟨⟨x4, h4⟩, e4, hf⟩ := bnd hf
  try dsimp only at hf
  have k4 := c_X6_refuse e4
  have m4 := (k4 default_g).1
  have mE : hp_n h4 ≤ hp_n hE ∧ hp_s h4 ≤ hp_s hE := by obtain ⟨-, q⟩ := of_if hf; cases q; exact ⟨Nat.le_refl _, Nat.le_refl _⟩
  refine ⟨by omega, fun X g K ok nmx lev hK en => ?_⟩
  refine tj_aload_n ok 0 dX6_pass_11 rfl rfl ?_
  refine tj_iconst (v := 1) ok dX6_pass_12 (by decide) ?_
  refine tj_aload_n ok 0 dX6_pass_13 rfl rfl ?_
  refine tj_getR (k := 2) ok fcX6 (by decide) wm_132 rfl (Or.inl ⟨_, rfl⟩) dX6_pass_14 e1 ?_
  refine tj_getI (k := 2) ok fcX7 (by decide) wm_1040 rfl (Or.inl rfl) dX6_pass_17 e2 ?_
  refine tj_callV (rest := ([] : List TV).map (vl g)) (as := [.inl ((1 : Int32)), .inl (x2)]) ok lev (by omega) fcX6.1 (by decide) rfl (of_if e3).1 (k4 g) (CaX.of en (by omega)) kn_X6_refuse wm_1041 wm_1042 wm_1043 (rs_ok (Nat.le_of_ble_eq_true rfl)) rfl rfl dX6_pass_20 ?_
  exact tj_zreturn ok hf en dX6_pass_23
def b_X6_pass_0 (a0 : Nat) (a1 : Int32) (h : AH) : Option (Int32 × AH) :=
  (g_r h a0 6 2).bind fun x1 => (g_i h x1 7 0).bind fun x2 => if x2 = a1 then b_X6_pass_24 a0 h else b_X6_pass_11 a0 h
set_option maxHeartbeats 4000000 in
set_option maxRecDepth 100000 in
theorem q_X6_pass_0 {a0 : Nat} {a1 : Int32} {h hE : AH} {v : Int32} (hf : b_X6_pass_0 a0 a1 h = some (v, hE)) : JD cX6_pass 2 RX6 "pass" (some .boolean) (3) 0 [(0, .inr (.inr (a0))), (1, .inl (a1))] [] h hE (some (.inl (v))) := by
  unfold b_X6_pass_0 at hf
  obtain ⟨x1, e1, hf⟩ := bnd hf
  obtain ⟨x2, e2, hf⟩ := bnd hf
  have mE : hp_n h ≤ hp_n hE ∧ hp_s h ≤ hp_s hE := by
    by_cases hc : x2 = a1
    · rw [if_pos hc] at hf; exact (q_X6_pass_24 hf).1
    · rw [if_neg hc] at hf; exact (q_X6_pass_11 hf).1
  refine ⟨by omega, fun X g K ok nmx lev hK en => ?_⟩
  refine tj_aload_n ok 0 dX6_pass_0 rfl rfl ?_
  refine tj_getR (k := 2) ok fcX6 (by decide) wm_132 rfl (Or.inl ⟨_, rfl⟩) dX6_pass_1 e1 ?_
  refine tj_getI (k := 0) ok fcX7 (by decide) wm_1062 rfl (Or.inl rfl) dX6_pass_4 e2 ?_
  refine tj_iload_n ok 1 dX6_pass_7 rfl rfl ?_
  refine tj_icmp_eq (tgt := 24) ok dX6_pass_8 (by decide) (fun hc => ?_) (fun hc => ?_)
  · rw [if_pos hc] at hf
    refine tj_sub (lv' := [(0, .inr (.inr (a0)))]) [0] rfl ?_
    exact (q_X6_pass_24 hf).2 X g K ok nmx lev hK en
  · rw [if_neg hc] at hf
    refine tj_sub (lv' := [(0, .inr (.inr (a0)))]) [0] rfl ?_
    exact (q_X6_pass_11 hf).2 X g K ok nmx lev hK en
def f_X6_pass (a0 : Nat) (a1 : Int32) (h : AH) : Option (Int32 × AH) := b_X6_pass_0  a0 a1 h
theorem c_X6_pass {a0 : Nat} {a1 : Int32} {h hE : AH} {v : Int32} (hf : f_X6_pass a0 a1 h = some (v, hE)) : ∀ g : GT, CM g (3) yX6_pass cX6_pass 2 (some .boolean) h [.inr (.inr (a0)), .inl (a1)] hE (some (.inl (v))) :=
  CM.ofJ (by decide) (by show _ ≤ 2; exact Nat.le_of_ble_eq_true rfl) (q_X6_pass_0 hf)
/-! ===== LitmusHouse$Reader.readDone()Z ===== -/
def b_X6_readDone_21  (h : AH) : Option (Int32 × AH) :=
  ok_z (0 : Int32) h
set_option maxHeartbeats 4000000 in
set_option maxRecDepth 100000 in
theorem q_X6_readDone_21 {h hE : AH} {v : Int32} (hf : b_X6_readDone_21  h = some (v, hE)) : JD cX6_readDone 1 RX6 "readDone" (some .boolean) (4) 21 [] [] h hE (some (.inl (v))) := by
  unfold b_X6_readDone_21 at hf
  have mE : hp_n h ≤ hp_n hE ∧ hp_s h ≤ hp_s hE := by obtain ⟨-, q⟩ := of_if hf; cases q; exact ⟨Nat.le_refl _, Nat.le_refl _⟩
  refine ⟨by omega, fun X g K ok nmx lev hK en => ?_⟩
  refine tj_iconst (v := 0) ok dX6_readDone_21 (by decide) ?_
  exact tj_zreturn ok hf en dX6_readDone_22
def b_X6_readDone_23 (a0 : Nat) (h : AH) : Option (Int32 × AH) :=
  (g_r h a0 6 5).bind fun x1 => (g_r h a0 6 5).bind fun x2 => (g_i h x2 0 12).bind fun x3 => (p_i h x1 0 17 x3).bind fun h4 => (g_r h4 a0 6 5).bind fun x5 => (g_i h4 a0 6 6).bind fun x6 => (ok_v h4 x5 0).bind fun x7 => (f_X0_addAction x5 x6 (5 : Int32) (-1 : Int32) (-1 : Int32) (-1 : Int32) (-1 : Int32) h4).bind fun h8 => (g_r h8 a0 6 2).bind fun x9 => (ok_v h8 x9 7).bind fun x10 => (f_X7_advance x9 h8).bind fun h11 => (ok_v h11 a0 6).bind fun x12 => (f_X6_pass a0 (15 : Int32) h11).bind fun q13 => ok_z q13.1 q13.2
set_option maxHeartbeats 4000000 in
set_option maxRecDepth 100000 in
theorem q_X6_readDone_23 {a0 : Nat} {h hE : AH} {v : Int32} (hf : b_X6_readDone_23 a0 h = some (v, hE)) : JD cX6_readDone 1 RX6 "readDone" (some .boolean) (4) 23 [(0, .inr (.inr (a0)))] [] h hE (some (.inl (v))) := by
  unfold b_X6_readDone_23 at hf
  obtain ⟨x1, e1, hf⟩ := bnd hf
  obtain ⟨x2, e2, hf⟩ := bnd hf
  obtain ⟨x3, e3, hf⟩ := bnd hf
  obtain ⟨h4, e4, hf⟩ := bnd hf
  have m4 := nn_pi e4
  obtain ⟨x5, e5, hf⟩ := bnd hf
  obtain ⟨x6, e6, hf⟩ := bnd hf
  obtain ⟨x7, e7, hf⟩ := bnd hf
  obtain ⟨h8, e8, hf⟩ := bnd hf
  have k8 := c_X0_addAction e8
  have m8 := (k8 default_g).1
  obtain ⟨x9, e9, hf⟩ := bnd hf
  obtain ⟨x10, e10, hf⟩ := bnd hf
  obtain ⟨h11, e11, hf⟩ := bnd hf
  have k11 := c_X7_advance e11
  have m11 := (k11 default_g).1
  obtain ⟨x12, e12, hf⟩ := bnd hf
  obtain ⟨⟨x13, h13⟩, e13, hf⟩ := bnd hf
  try dsimp only at hf
  have k13 := c_X6_pass e13
  have m13 := (k13 default_g).1
  have mE : hp_n h13 ≤ hp_n hE ∧ hp_s h13 ≤ hp_s hE := by obtain ⟨-, q⟩ := of_if hf; cases q; exact ⟨Nat.le_refl _, Nat.le_refl _⟩
  refine ⟨by omega, fun X g K ok nmx lev hK en => ?_⟩
  refine tj_aload_n ok 0 dX6_readDone_23 rfl rfl ?_
  refine tj_getR (k := 5) ok fcX6 (by decide) wm_135 rfl (Or.inl ⟨_, rfl⟩) dX6_readDone_24 e1 ?_
  refine tj_aload_n ok 0 dX6_readDone_27 rfl rfl ?_
  refine tj_getR (k := 5) ok fcX6 (by decide) wm_135 rfl (Or.inl ⟨_, rfl⟩) dX6_readDone_28 e2 ?_
  refine tj_getI (k := 12) ok fcX0 (by decide) wm_1055 rfl (Or.inl rfl) dX6_readDone_31 e3 ?_
  refine tj_putI (k := 17) ok fcX0 (by decide) wm_1049 rfl (Or.inl rfl) rfl dX6_readDone_34 e4 ?_
  refine tj_aload_n ok 0 dX6_readDone_37 rfl rfl ?_
  refine tj_getR (k := 5) ok fcX6 (by decide) wm_135 rfl (Or.inl ⟨_, rfl⟩) dX6_readDone_38 e5 ?_
  refine tj_aload_n ok 0 dX6_readDone_41 rfl rfl ?_
  refine tj_getI (k := 6) ok fcX6 (by decide) wm_136 rfl (Or.inl rfl) dX6_readDone_42 e6 ?_
  refine tj_iconst (v := 5) ok dX6_readDone_45 (by decide) ?_
  refine tj_iconst (v := -1) ok dX6_readDone_46 (by decide) ?_
  refine tj_iconst (v := -1) ok dX6_readDone_47 (by decide) ?_
  refine tj_iconst (v := -1) ok dX6_readDone_48 (by decide) ?_
  refine tj_iconst (v := -1) ok dX6_readDone_49 (by decide) ?_
  refine tj_callV (rest := ([] : List TV).map (vl g)) (as := [.inl (x6), .inl ((5 : Int32)), .inl ((-1 : Int32)), .inl ((-1 : Int32)), .inl ((-1 : Int32)), .inl ((-1 : Int32))]) ok lev (by omega) fcX0.1 (by decide) rfl (of_if e7).1 (k8 g) (CaX.of en (by omega)) kn_X0_addAction wm_1064 wm_1065 wm_1066 (rs_ok (Nat.le_of_ble_eq_true rfl)) rfl rfl dX6_readDone_50 ?_
  refine tj_aload_n ok 0 dX6_readDone_53 rfl rfl ?_
  refine tj_getR (k := 2) ok fcX6 (by decide) wm_132 rfl (Or.inl ⟨_, rfl⟩) dX6_readDone_54 e9 ?_
  refine tj_callV (rest := ([] : List TV).map (vl g)) (as := []) ok lev (by omega) fcX7.1 (by decide) rfl (of_if e10).1 (k11 g) (CaX.of en (by omega)) kn_X7_advance wm_1060 wm_1025 wm_1026 (rs_ok (Nat.le_of_ble_eq_true rfl)) rfl rfl dX6_readDone_57 ?_
  refine tj_aload_n ok 0 dX6_readDone_60 rfl rfl ?_
  refine tj_bipush (v := 15) ok dX6_readDone_61 (by decide) ?_
  refine tj_callV (rest := ([] : List TV).map (vl g)) (as := [.inl ((15 : Int32))]) ok lev (by omega) fcX6.1 (by decide) rfl (of_if e12).1 (k13 g) (CaX.of en (by omega)) kn_X6_pass wm_1067 wm_1068 wm_1069 (rs_ok (Nat.le_of_ble_eq_true rfl)) rfl rfl dX6_readDone_63 ?_
  exact tj_zreturn ok hf en dX6_readDone_66
def b_X6_readDone_14 (a0 : Nat) (h : AH) : Option (Int32 × AH) :=
  (ok_v h a0 6).bind fun x1 => (f_X6_checkMaker a0 h).bind fun q2 => if q2.1 = 0 then b_X6_readDone_21 q2.2 else b_X6_readDone_23 a0 q2.2
set_option maxHeartbeats 4000000 in
set_option maxRecDepth 100000 in
theorem q_X6_readDone_14 {a0 : Nat} {h hE : AH} {v : Int32} (hf : b_X6_readDone_14 a0 h = some (v, hE)) : JD cX6_readDone 1 RX6 "readDone" (some .boolean) (4) 14 [(0, .inr (.inr (a0)))] [] h hE (some (.inl (v))) := by
  unfold b_X6_readDone_14 at hf
  obtain ⟨x1, e1, hf⟩ := bnd hf
  obtain ⟨⟨x2, h2⟩, e2, hf⟩ := bnd hf
  try dsimp only at hf
  have k2 := c_X6_checkMaker e2
  have m2 := (k2 default_g).1
  have mE : hp_n h2 ≤ hp_n hE ∧ hp_s h2 ≤ hp_s hE := by
    by_cases hc : x2 = 0
    · rw [if_pos hc] at hf; exact (q_X6_readDone_21 hf).1
    · rw [if_neg hc] at hf; exact (q_X6_readDone_23 hf).1
  refine ⟨by omega, fun X g K ok nmx lev hK en => ?_⟩
  refine tj_aload_n ok 0 dX6_readDone_14 rfl rfl ?_
  refine tj_callV (rest := ([] : List TV).map (vl g)) (as := []) ok lev (by omega) fcX6.1 (by decide) rfl (of_if e1).1 (k2 g) (CaX.of en (by omega)) kn_X6_checkMaker wm_1070 wm_1071 wm_1072 (rs_ok (Nat.le_of_ble_eq_true rfl)) rfl rfl dX6_readDone_15 ?_
  refine tj_if_ne (tgt := 23) ok dX6_readDone_18 (by decide) (fun hc => ?_) (fun hc => ?_)
  · rw [if_neg hc] at hf
    exact (q_X6_readDone_23 hf).2 X g K ok nmx lev hK en
  · rw [if_pos hc] at hf
    refine tj_sub (lv' := []) [] rfl ?_
    exact (q_X6_readDone_21 hf).2 X g K ok nmx lev hK en
def b_X6_readDone_7 (a0 : Nat) (h : AH) : Option (Int32 × AH) :=
  (ok_v h a0 6).bind fun x1 => (f_X6_mayAct a0 h).bind fun q2 => if q2.1 = 0 then b_X6_readDone_21 q2.2 else b_X6_readDone_14 a0 q2.2
set_option maxHeartbeats 4000000 in
set_option maxRecDepth 100000 in
theorem q_X6_readDone_7 {a0 : Nat} {h hE : AH} {v : Int32} (hf : b_X6_readDone_7 a0 h = some (v, hE)) : JD cX6_readDone 1 RX6 "readDone" (some .boolean) (4) 7 [(0, .inr (.inr (a0)))] [] h hE (some (.inl (v))) := by
  unfold b_X6_readDone_7 at hf
  obtain ⟨x1, e1, hf⟩ := bnd hf
  obtain ⟨⟨x2, h2⟩, e2, hf⟩ := bnd hf
  try dsimp only at hf
  have k2 := c_X6_mayAct e2
  have m2 := (k2 default_g).1
  have mE : hp_n h2 ≤ hp_n hE ∧ hp_s h2 ≤ hp_s hE := by
    by_cases hc : x2 = 0
    · rw [if_pos hc] at hf; exact (q_X6_readDone_21 hf).1
    · rw [if_neg hc] at hf; exact (q_X6_readDone_14 hf).1
  refine ⟨by omega, fun X g K ok nmx lev hK en => ?_⟩
  refine tj_aload_n ok 0 dX6_readDone_7 rfl rfl ?_
  refine tj_callV (rest := ([] : List TV).map (vl g)) (as := []) ok lev (by omega) fcX6.1 (by decide) rfl (of_if e1).1 (k2 g) (CaX.of en (by omega)) kn_X6_mayAct wm_1073 wm_1074 wm_1075 (rs_ok (Nat.le_of_ble_eq_true rfl)) rfl rfl dX6_readDone_8 ?_
  refine tj_if_eq (tgt := 21) ok dX6_readDone_11 (by decide) (fun hc => ?_) (fun hc => ?_)
  · rw [if_pos hc] at hf
    refine tj_sub (lv' := []) [] rfl ?_
    exact (q_X6_readDone_21 hf).2 X g K ok nmx lev hK en
  · rw [if_neg hc] at hf
    exact (q_X6_readDone_14 hf).2 X g K ok nmx lev hK en
def b_X6_readDone_0 (a0 : Nat) (h : AH) : Option (Int32 × AH) :=
  (ok_v h a0 6).bind fun x1 => (f_X6_countStatement a0 h).bind fun q2 => if q2.1 = 0 then b_X6_readDone_21 q2.2 else b_X6_readDone_7 a0 q2.2
set_option maxHeartbeats 4000000 in
set_option maxRecDepth 100000 in
theorem q_X6_readDone_0 {a0 : Nat} {h hE : AH} {v : Int32} (hf : b_X6_readDone_0 a0 h = some (v, hE)) : JD cX6_readDone 1 RX6 "readDone" (some .boolean) (4) 0 [(0, .inr (.inr (a0)))] [] h hE (some (.inl (v))) := by
  unfold b_X6_readDone_0 at hf
  obtain ⟨x1, e1, hf⟩ := bnd hf
  obtain ⟨⟨x2, h2⟩, e2, hf⟩ := bnd hf
  try dsimp only at hf
  have k2 := c_X6_countStatement e2
  have m2 := (k2 default_g).1
  have mE : hp_n h2 ≤ hp_n hE ∧ hp_s h2 ≤ hp_s hE := by
    by_cases hc : x2 = 0
    · rw [if_pos hc] at hf; exact (q_X6_readDone_21 hf).1
    · rw [if_neg hc] at hf; exact (q_X6_readDone_7 hf).1
  refine ⟨by omega, fun X g K ok nmx lev hK en => ?_⟩
  refine tj_aload_n ok 0 dX6_readDone_0 rfl rfl ?_
  refine tj_callV (rest := ([] : List TV).map (vl g)) (as := []) ok lev (by omega) fcX6.1 (by decide) rfl (of_if e1).1 (k2 g) (CaX.of en (by omega)) kn_X6_countStatement wm_1076 wm_1077 wm_1078 (rs_ok (Nat.le_of_ble_eq_true rfl)) rfl rfl dX6_readDone_1 ?_
  refine tj_if_eq (tgt := 21) ok dX6_readDone_4 (by decide) (fun hc => ?_) (fun hc => ?_)
  · rw [if_pos hc] at hf
    refine tj_sub (lv' := []) [] rfl ?_
    exact (q_X6_readDone_21 hf).2 X g K ok nmx lev hK en
  · rw [if_neg hc] at hf
    exact (q_X6_readDone_7 hf).2 X g K ok nmx lev hK en
def f_X6_readDone (a0 : Nat) (h : AH) : Option (Int32 × AH) := b_X6_readDone_0  a0 h
theorem c_X6_readDone {a0 : Nat} {h hE : AH} {v : Int32} (hf : f_X6_readDone a0 h = some (v, hE)) : ∀ g : GT, CM g (4) yX6_readDone cX6_readDone 1 (some .boolean) h [.inr (.inr (a0))] hE (some (.inl (v))) :=
  CM.ofJ (by decide) (by show _ ≤ 1; exact Nat.le_of_ble_eq_true rfl) (q_X6_readDone_0 hf)
/-! ===== LitmusHouse$Reader.readBranches(I)Z ===== -/
def b_X6_readBranches_119 (rc : Nat → Int32 → AH → Option (Int32 × AH))  (h : AH) : Option (Int32 × AH) :=
  ok_z (1 : Int32) h
set_option maxHeartbeats 4000000 in
set_option maxRecDepth 100000 in
theorem q_X6_readBranches_119 {rc : Nat → Int32 → AH → Option (Int32 × AH)} {kd : Nat} (hrc : ∀ {c0 : Nat} {c1 : Int32} {h h1 : AH} {v : Int32} , rc c0 c1 h = some (v, h1) → ∀ g : GT, CM g (kd) yX6_readBlock cX6_readBlock 3 (some .boolean) h [.inr (.inr (c0)), .inl (c1)] h1 (some (.inl (v)))) {h hE : AH} {v : Int32} (hf : b_X6_readBranches_119 rc  h = some (v, hE)) : JD cX6_readBranches 5 RX6 "readBranches" (some .boolean) (kd + 3) 119 [] [] h hE (some (.inl (v))) := by
  unfold b_X6_readBranches_119 at hf
  have mE : hp_n h ≤ hp_n hE ∧ hp_s h ≤ hp_s hE := by obtain ⟨-, q⟩ := of_if hf; cases q; exact ⟨Nat.le_refl _, Nat.le_refl _⟩
  refine ⟨by omega, fun X g K ok nmx lev hK en => ?_⟩
  refine tj_iconst (v := 1) ok dX6_readBranches_119 (by decide) ?_
  exact tj_zreturn ok hf en dX6_readBranches_120
def b_X6_readBranches_105 (rc : Nat → Int32 → AH → Option (Int32 × AH)) (a0 : Nat) (a3 : Int32) (a4 : Int32) (h : AH) : Option (Int32 × AH) :=
  (g_r h a0 6 5).bind fun x1 => (g_r h x1 0 5).bind fun x2 => (s_i h x2 (a3 &&& (63 : Int32)) a4).bind fun h3 => b_X6_readBranches_119 rc h3
set_option maxHeartbeats 4000000 in
set_option maxRecDepth 100000 in
theorem q_X6_readBranches_105 {rc : Nat → Int32 → AH → Option (Int32 × AH)} {kd : Nat} (hrc : ∀ {c0 : Nat} {c1 : Int32} {h h1 : AH} {v : Int32} , rc c0 c1 h = some (v, h1) → ∀ g : GT, CM g (kd) yX6_readBlock cX6_readBlock 3 (some .boolean) h [.inr (.inr (c0)), .inl (c1)] h1 (some (.inl (v)))) {a0 : Nat} {a3 : Int32} {a4 : Int32} {h hE : AH} {v : Int32} (hf : b_X6_readBranches_105 rc a0 a3 a4 h = some (v, hE)) : JD cX6_readBranches 5 RX6 "readBranches" (some .boolean) (kd + 3) 105 [(0, .inr (.inr (a0))), (3, .inl (a3)), (4, .inl (a4))] [] h hE (some (.inl (v))) := by
  unfold b_X6_readBranches_105 at hf
  obtain ⟨x1, e1, hf⟩ := bnd hf
  obtain ⟨x2, e2, hf⟩ := bnd hf
  obtain ⟨h3, e3, hf⟩ := bnd hf
  have m3 := nn_si e3
  have J := q_X6_readBranches_119 hrc hf
  have mE := J.1
  refine ⟨by omega, fun X g K ok nmx lev hK en => ?_⟩
  refine tj_aload_n ok 0 dX6_readBranches_105 rfl rfl ?_
  refine tj_getR (k := 5) ok fcX6 (by decide) wm_135 rfl (Or.inl ⟨_, rfl⟩) dX6_readBranches_106 e1 ?_
  refine tj_getR (k := 5) ok fcX0 (by decide) wm_1080 rfl (Or.inr ⟨_, rfl⟩) dX6_readBranches_109 e2 ?_
  refine tj_iload_n ok 1 dX6_readBranches_112 rfl rfl ?_
  refine tj_bipush (v := 63) ok dX6_readBranches_113 (by decide) ?_
  refine tj_iand ok dX6_readBranches_115 ?_
  refine tj_iload ok 2 dX6_readBranches_116 rfl ?_
  refine tj_iastore ok dX6_readBranches_118 e3 ?_
  refine tj_sub (lv' := []) [] rfl ?_
  exact J.2 X g K ok nmx lev hK en
def b_X6_readBranches_99 (rc : Nat → Int32 → AH → Option (Int32 × AH)) (a0 : Nat) (a3 : Int32) (a4 : Int32) (s0 : Nat) (s1 : Int32) (s2 : Int32) (h : AH) : Option (Int32 × AH) :=
  (s_i h s0 s1 s2).bind fun h1 => if a3 = (-1 : Int32) then b_X6_readBranches_119 rc h1 else b_X6_readBranches_105 rc a0 a3 a4 h1
set_option maxHeartbeats 4000000 in
set_option maxRecDepth 100000 in
theorem q_X6_readBranches_99 {rc : Nat → Int32 → AH → Option (Int32 × AH)} {kd : Nat} (hrc : ∀ {c0 : Nat} {c1 : Int32} {h h1 : AH} {v : Int32} , rc c0 c1 h = some (v, h1) → ∀ g : GT, CM g (kd) yX6_readBlock cX6_readBlock 3 (some .boolean) h [.inr (.inr (c0)), .inl (c1)] h1 (some (.inl (v)))) {a0 : Nat} {a3 : Int32} {a4 : Int32} {s0 : Nat} {s1 : Int32} {s2 : Int32} {h hE : AH} {v : Int32} (hf : b_X6_readBranches_99 rc a0 a3 a4 s0 s1 s2 h = some (v, hE)) : JD cX6_readBranches 5 RX6 "readBranches" (some .boolean) (kd + 3) 99 [(0, .inr (.inr (a0))), (3, .inl (a3)), (4, .inl (a4))] [.inl (s2), .inl (s1), .inr (.inr (s0))] h hE (some (.inl (v))) := by
  unfold b_X6_readBranches_99 at hf
  obtain ⟨h1, e1, hf⟩ := bnd hf
  have m1 := nn_si e1
  have mE : hp_n h1 ≤ hp_n hE ∧ hp_s h1 ≤ hp_s hE := by
    by_cases hc : a3 = (-1 : Int32)
    · rw [if_pos hc] at hf; exact (q_X6_readBranches_119 hrc hf).1
    · rw [if_neg hc] at hf; exact (q_X6_readBranches_105 hrc hf).1
  refine ⟨by omega, fun X g K ok nmx lev hK en => ?_⟩
  refine tj_iastore ok dX6_readBranches_99 e1 ?_
  refine tj_iload_n ok 1 dX6_readBranches_100 rfl rfl ?_
  refine tj_iconst (v := -1) ok dX6_readBranches_101 (by decide) ?_
  refine tj_icmp_eq (tgt := 119) ok dX6_readBranches_102 (by decide) (fun hc => ?_) (fun hc => ?_)
  · rw [if_pos hc] at hf
    refine tj_sub (lv' := []) [] rfl ?_
    exact (q_X6_readBranches_119 hrc hf).2 X g K ok nmx lev hK en
  · rw [if_neg hc] at hf
    exact (q_X6_readBranches_105 hrc hf).2 X g K ok nmx lev hK en
def b_X6_readBranches_96 (rc : Nat → Int32 → AH → Option (Int32 × AH)) (a0 : Nat) (a3 : Int32) (a4 : Int32) (s0 : Nat) (s1 : Int32) (h : AH) : Option (Int32 × AH) :=
  b_X6_readBranches_99 rc a0 a3 a4 s0 s1 (a3 + (1 : Int32)) h
set_option maxHeartbeats 4000000 in
set_option maxRecDepth 100000 in
theorem q_X6_readBranches_96 {rc : Nat → Int32 → AH → Option (Int32 × AH)} {kd : Nat} (hrc : ∀ {c0 : Nat} {c1 : Int32} {h h1 : AH} {v : Int32} , rc c0 c1 h = some (v, h1) → ∀ g : GT, CM g (kd) yX6_readBlock cX6_readBlock 3 (some .boolean) h [.inr (.inr (c0)), .inl (c1)] h1 (some (.inl (v)))) {a0 : Nat} {a3 : Int32} {a4 : Int32} {s0 : Nat} {s1 : Int32} {h hE : AH} {v : Int32} (hf : b_X6_readBranches_96 rc a0 a3 a4 s0 s1 h = some (v, hE)) : JD cX6_readBranches 5 RX6 "readBranches" (some .boolean) (kd + 3) 96 [(0, .inr (.inr (a0))), (3, .inl (a3)), (4, .inl (a4))] [.inl (s1), .inr (.inr (s0))] h hE (some (.inl (v))) := by
  unfold b_X6_readBranches_96 at hf
  have J := q_X6_readBranches_99 hrc hf
  have mE := J.1
  refine ⟨by omega, fun X g K ok nmx lev hK en => ?_⟩
  refine tj_iload_n ok 1 dX6_readBranches_96 rfl rfl ?_
  refine tj_iconst (v := 1) ok dX6_readBranches_97 (by decide) ?_
  refine tj_iadd ok dX6_readBranches_98 ?_
  exact J.2 X g K ok nmx lev hK en
def b_X6_readBranches_91 (rc : Nat → Int32 → AH → Option (Int32 × AH)) (a0 : Nat) (a3 : Int32) (a4 : Int32) (s0 : Nat) (s1 : Int32) (h : AH) : Option (Int32 × AH) :=
  b_X6_readBranches_99 rc a0 a3 a4 s0 s1 a4 h
set_option maxHeartbeats 4000000 in
set_option maxRecDepth 100000 in
theorem q_X6_readBranches_91 {rc : Nat → Int32 → AH → Option (Int32 × AH)} {kd : Nat} (hrc : ∀ {c0 : Nat} {c1 : Int32} {h h1 : AH} {v : Int32} , rc c0 c1 h = some (v, h1) → ∀ g : GT, CM g (kd) yX6_readBlock cX6_readBlock 3 (some .boolean) h [.inr (.inr (c0)), .inl (c1)] h1 (some (.inl (v)))) {a0 : Nat} {a3 : Int32} {a4 : Int32} {s0 : Nat} {s1 : Int32} {h hE : AH} {v : Int32} (hf : b_X6_readBranches_91 rc a0 a3 a4 s0 s1 h = some (v, hE)) : JD cX6_readBranches 5 RX6 "readBranches" (some .boolean) (kd + 3) 91 [(0, .inr (.inr (a0))), (3, .inl (a3)), (4, .inl (a4))] [.inl (s1), .inr (.inr (s0))] h hE (some (.inl (v))) := by
  unfold b_X6_readBranches_91 at hf
  have J := q_X6_readBranches_99 hrc hf
  have mE := J.1
  refine ⟨by omega, fun X g K ok nmx lev hK en => ?_⟩
  refine tj_iload ok 2 dX6_readBranches_91 rfl ?_
  refine tj_goto (tgt := 99) ok dX6_readBranches_93 (by decide) ?_
  exact J.2 X g K ok nmx lev hK en
def b_X6_readBranches_60 (rc : Nat → Int32 → AH → Option (Int32 × AH)) (a0 : Nat) (a1 : Int32) (a3 : Int32) (h : AH) : Option (Int32 × AH) :=
  (g_r h a0 6 5).bind fun x1 => (ok_v h x1 0).bind fun x2 => (f_X0_add x1 (9 : Int32) (-1 : Int32) (-1 : Int32) (-1 : Int32) (-1 : Int32) h).bind fun q3 => (g_r q3.2 a0 6 5).bind fun x4 => (g_r q3.2 x4 0 5).bind fun x5 => if a3 = (-1 : Int32) then b_X6_readBranches_91 rc a0 a3 q3.1 x5 (a1 &&& (63 : Int32)) q3.2 else b_X6_readBranches_96 rc a0 a3 q3.1 x5 (a1 &&& (63 : Int32)) q3.2
set_option maxHeartbeats 4000000 in
set_option maxRecDepth 100000 in
theorem q_X6_readBranches_60 {rc : Nat → Int32 → AH → Option (Int32 × AH)} {kd : Nat} (hrc : ∀ {c0 : Nat} {c1 : Int32} {h h1 : AH} {v : Int32} , rc c0 c1 h = some (v, h1) → ∀ g : GT, CM g (kd) yX6_readBlock cX6_readBlock 3 (some .boolean) h [.inr (.inr (c0)), .inl (c1)] h1 (some (.inl (v)))) {a0 : Nat} {a1 : Int32} {a3 : Int32} {h hE : AH} {v : Int32} (hf : b_X6_readBranches_60 rc a0 a1 a3 h = some (v, hE)) : JD cX6_readBranches 5 RX6 "readBranches" (some .boolean) (kd + 3) 60 [(0, .inr (.inr (a0))), (1, .inl (a1)), (3, .inl (a3))] [] h hE (some (.inl (v))) := by
  unfold b_X6_readBranches_60 at hf
  obtain ⟨x1, e1, hf⟩ := bnd hf
  obtain ⟨x2, e2, hf⟩ := bnd hf
  obtain ⟨⟨x3, h3⟩, e3, hf⟩ := bnd hf
  try dsimp only at hf
  have k3 := c_X0_add e3
  have m3 := (k3 default_g).1
  obtain ⟨x4, e4, hf⟩ := bnd hf
  obtain ⟨x5, e5, hf⟩ := bnd hf
  have mE : hp_n h3 ≤ hp_n hE ∧ hp_s h3 ≤ hp_s hE := by
    by_cases hc : a3 = (-1 : Int32)
    · rw [if_pos hc] at hf; exact (q_X6_readBranches_91 hrc hf).1
    · rw [if_neg hc] at hf; exact (q_X6_readBranches_96 hrc hf).1
  refine ⟨by omega, fun X g K ok nmx lev hK en => ?_⟩
  refine tj_aload_n ok 0 dX6_readBranches_60 rfl rfl ?_
  refine tj_getR (k := 5) ok fcX6 (by decide) wm_135 rfl (Or.inl ⟨_, rfl⟩) dX6_readBranches_61 e1 ?_
  refine tj_bipush (v := 9) ok dX6_readBranches_64 (by decide) ?_
  refine tj_iconst (v := -1) ok dX6_readBranches_66 (by decide) ?_
  refine tj_iconst (v := -1) ok dX6_readBranches_67 (by decide) ?_
  refine tj_iconst (v := -1) ok dX6_readBranches_68 (by decide) ?_
  refine tj_iconst (v := -1) ok dX6_readBranches_69 (by decide) ?_
  refine tj_callV (rest := ([] : List TV).map (vl g)) (as := [.inl ((9 : Int32)), .inl ((-1 : Int32)), .inl ((-1 : Int32)), .inl ((-1 : Int32)), .inl ((-1 : Int32))]) ok lev (by omega) fcX0.1 (by decide) rfl (of_if e2).1 (k3 g) (CaX.of en (by omega)) kn_X0_add wm_1081 wm_71 wm_72 (rs_ok (Nat.le_of_ble_eq_true rfl)) rfl rfl dX6_readBranches_70 ?_
  refine tj_istore (lv' := [(0, .inr (.inr (a0))), (1, .inl (a1)), (3, .inl (a3)), (4, .inl (x3))]) ok dX6_readBranches_73 (by decide) rfl ?_
  refine tj_aload_n ok 0 dX6_readBranches_75 rfl rfl ?_
  refine tj_getR (k := 5) ok fcX6 (by decide) wm_135 rfl (Or.inl ⟨_, rfl⟩) dX6_readBranches_76 e4 ?_
  refine tj_getR (k := 5) ok fcX0 (by decide) wm_1080 rfl (Or.inr ⟨_, rfl⟩) dX6_readBranches_79 e5 ?_
  refine tj_iload_n ok 1 dX6_readBranches_82 rfl rfl ?_
  refine tj_bipush (v := 63) ok dX6_readBranches_83 (by decide) ?_
  refine tj_iand ok dX6_readBranches_85 ?_
  refine tj_iload_n ok 2 dX6_readBranches_86 rfl rfl ?_
  refine tj_iconst (v := -1) ok dX6_readBranches_87 (by decide) ?_
  refine tj_icmp_ne (tgt := 96) ok dX6_readBranches_88 (by decide) (fun hc => ?_) (fun hc => ?_)
  · rw [if_neg hc] at hf
    refine tj_sub (lv' := [(0, .inr (.inr (a0))), (3, .inl (a3)), (4, .inl (x3))]) [0, 2, 3] rfl ?_
    exact (q_X6_readBranches_96 hrc hf).2 X g K ok nmx lev hK en
  · rw [if_pos hc] at hf
    refine tj_sub (lv' := [(0, .inr (.inr (a0))), (3, .inl (a3)), (4, .inl (x3))]) [0, 2, 3] rfl ?_
    exact (q_X6_readBranches_91 hrc hf).2 X g K ok nmx lev hK en
def b_X6_readBranches_58 (rc : Nat → Int32 → AH → Option (Int32 × AH))  (h : AH) : Option (Int32 × AH) :=
  ok_z (0 : Int32) h
set_option maxHeartbeats 4000000 in
set_option maxRecDepth 100000 in
theorem q_X6_readBranches_58 {rc : Nat → Int32 → AH → Option (Int32 × AH)} {kd : Nat} (hrc : ∀ {c0 : Nat} {c1 : Int32} {h h1 : AH} {v : Int32} , rc c0 c1 h = some (v, h1) → ∀ g : GT, CM g (kd) yX6_readBlock cX6_readBlock 3 (some .boolean) h [.inr (.inr (c0)), .inl (c1)] h1 (some (.inl (v)))) {h hE : AH} {v : Int32} (hf : b_X6_readBranches_58 rc  h = some (v, hE)) : JD cX6_readBranches 5 RX6 "readBranches" (some .boolean) (kd + 3) 58 [] [] h hE (some (.inl (v))) := by
  unfold b_X6_readBranches_58 at hf
  have mE : hp_n h ≤ hp_n hE ∧ hp_s h ≤ hp_s hE := by obtain ⟨-, q⟩ := of_if hf; cases q; exact ⟨Nat.le_refl _, Nat.le_refl _⟩
  refine ⟨by omega, fun X g K ok nmx lev hK en => ?_⟩
  refine tj_iconst (v := 0) ok dX6_readBranches_58 (by decide) ?_
  exact tj_zreturn ok hf en dX6_readBranches_59
def b_X6_readBranches_29 (rc : Nat → Int32 → AH → Option (Int32 × AH)) (a0 : Nat) (a1 : Int32) (a2 : Int32) (h : AH) : Option (Int32 × AH) :=
  (g_r h a0 6 2).bind fun x1 => (ok_v h x1 7).bind fun x2 => (f_X7_advance x1 h).bind fun h3 => (g_r h3 a0 6 5).bind fun x4 => (ok_v h3 x4 0).bind fun x5 => (f_X0_add x4 (8 : Int32) (-1 : Int32) (-1 : Int32) (-1 : Int32) (-1 : Int32) h3).bind fun q6 => (ok_v q6.2 a0 6).bind fun x7 => (rc a0 a2 q6.2).bind fun q8 => if q8.1 = 0 then b_X6_readBranches_58 rc q8.2 else b_X6_readBranches_60 rc a0 a1 q6.1 q8.2
set_option maxHeartbeats 4000000 in
set_option maxRecDepth 100000 in
theorem q_X6_readBranches_29 {rc : Nat → Int32 → AH → Option (Int32 × AH)} {kd : Nat} (hrc : ∀ {c0 : Nat} {c1 : Int32} {h h1 : AH} {v : Int32} , rc c0 c1 h = some (v, h1) → ∀ g : GT, CM g (kd) yX6_readBlock cX6_readBlock 3 (some .boolean) h [.inr (.inr (c0)), .inl (c1)] h1 (some (.inl (v)))) {a0 : Nat} {a1 : Int32} {a2 : Int32} {h hE : AH} {v : Int32} (hf : b_X6_readBranches_29 rc a0 a1 a2 h = some (v, hE)) : JD cX6_readBranches 5 RX6 "readBranches" (some .boolean) (kd + 3) 29 [(0, .inr (.inr (a0))), (1, .inl (a1)), (2, .inl (a2))] [] h hE (some (.inl (v))) := by
  unfold b_X6_readBranches_29 at hf
  obtain ⟨x1, e1, hf⟩ := bnd hf
  obtain ⟨x2, e2, hf⟩ := bnd hf
  obtain ⟨h3, e3, hf⟩ := bnd hf
  have k3 := c_X7_advance e3
  have m3 := (k3 default_g).1
  obtain ⟨x4, e4, hf⟩ := bnd hf
  obtain ⟨x5, e5, hf⟩ := bnd hf
  obtain ⟨⟨x6, h6⟩, e6, hf⟩ := bnd hf
  try dsimp only at hf
  have k6 := c_X0_add e6
  have m6 := (k6 default_g).1
  obtain ⟨x7, e7, hf⟩ := bnd hf
  obtain ⟨⟨x8, h8⟩, e8, hf⟩ := bnd hf
  try dsimp only at hf
  have k8 := hrc e8
  have m8 := (k8 default_g).1
  have mE : hp_n h8 ≤ hp_n hE ∧ hp_s h8 ≤ hp_s hE := by
    by_cases hc : x8 = 0
    · rw [if_pos hc] at hf; exact (q_X6_readBranches_58 hrc hf).1
    · rw [if_neg hc] at hf; exact (q_X6_readBranches_60 hrc hf).1
  refine ⟨by omega, fun X g K ok nmx lev hK en => ?_⟩
  refine tj_aload_n ok 0 dX6_readBranches_29 rfl rfl ?_
  refine tj_getR (k := 2) ok fcX6 (by decide) wm_132 rfl (Or.inl ⟨_, rfl⟩) dX6_readBranches_30 e1 ?_
  refine tj_callV (rest := ([] : List TV).map (vl g)) (as := []) ok lev (by omega) fcX7.1 (by decide) rfl (of_if e2).1 (k3 g) (CaX.of en (by omega)) kn_X7_advance wm_1060 wm_1025 wm_1026 (rs_ok (Nat.le_of_ble_eq_true rfl)) rfl rfl dX6_readBranches_33 ?_
  refine tj_aload_n ok 0 dX6_readBranches_36 rfl rfl ?_
  refine tj_getR (k := 5) ok fcX6 (by decide) wm_135 rfl (Or.inl ⟨_, rfl⟩) dX6_readBranches_37 e4 ?_
  refine tj_bipush (v := 8) ok dX6_readBranches_40 (by decide) ?_
  refine tj_iconst (v := -1) ok dX6_readBranches_42 (by decide) ?_
  refine tj_iconst (v := -1) ok dX6_readBranches_43 (by decide) ?_
  refine tj_iconst (v := -1) ok dX6_readBranches_44 (by decide) ?_
  refine tj_iconst (v := -1) ok dX6_readBranches_45 (by decide) ?_
  refine tj_callV (rest := ([] : List TV).map (vl g)) (as := [.inl ((8 : Int32)), .inl ((-1 : Int32)), .inl ((-1 : Int32)), .inl ((-1 : Int32)), .inl ((-1 : Int32))]) ok lev (by omega) fcX0.1 (by decide) rfl (of_if e5).1 (k6 g) (CaX.of en (by omega)) kn_X0_add wm_1081 wm_71 wm_72 (rs_ok (Nat.le_of_ble_eq_true rfl)) rfl rfl dX6_readBranches_46 ?_
  refine tj_istore_n (lv' := [(0, .inr (.inr (a0))), (1, .inl (a1)), (2, .inl (a2)), (3, .inl (x6))]) ok dX6_readBranches_49 rfl (by decide) rfl ?_
  refine tj_aload_n ok 0 dX6_readBranches_50 rfl rfl ?_
  refine tj_iload_n ok 2 dX6_readBranches_51 rfl rfl ?_
  refine tj_callV (rest := ([] : List TV).map (vl g)) (as := [.inl (a2)]) ok lev (by omega) fcX6.1 (by decide) rfl (of_if e7).1 (k8 g) (CaX.of en (by omega)) kn_X6_readBlock wm_1082 wm_1083 wm_1084 (rs_ok (Nat.le_of_ble_eq_true rfl)) rfl rfl dX6_readBranches_52 ?_
  refine tj_if_ne (tgt := 60) ok dX6_readBranches_55 (by decide) (fun hc => ?_) (fun hc => ?_)
  · rw [if_neg hc] at hf
    refine tj_sub (lv' := [(0, .inr (.inr (a0))), (1, .inl (a1)), (3, .inl (x6))]) [0, 1, 3] rfl ?_
    exact (q_X6_readBranches_60 hrc hf).2 X g K ok nmx lev hK en
  · rw [if_pos hc] at hf
    refine tj_sub (lv' := []) [] rfl ?_
    exact (q_X6_readBranches_58 hrc hf).2 X g K ok nmx lev hK en
def b_X6_readBranches_15 (rc : Nat → Int32 → AH → Option (Int32 × AH)) (a0 : Nat) (a1 : Int32) (a2 : Int32) (h : AH) : Option (Int32 × AH) :=
  (g_r h a0 6 2).bind fun x1 => (g_i h x1 7 0).bind fun x2 => if x2 = (10 : Int32) then b_X6_readBranches_29 rc a0 a1 a2 h else b_X6_readBranches_60 rc a0 a1 (-1 : Int32) h
set_option maxHeartbeats 4000000 in
set_option maxRecDepth 100000 in
theorem q_X6_readBranches_15 {rc : Nat → Int32 → AH → Option (Int32 × AH)} {kd : Nat} (hrc : ∀ {c0 : Nat} {c1 : Int32} {h h1 : AH} {v : Int32} , rc c0 c1 h = some (v, h1) → ∀ g : GT, CM g (kd) yX6_readBlock cX6_readBlock 3 (some .boolean) h [.inr (.inr (c0)), .inl (c1)] h1 (some (.inl (v)))) {a0 : Nat} {a1 : Int32} {a2 : Int32} {h hE : AH} {v : Int32} (hf : b_X6_readBranches_15 rc a0 a1 a2 h = some (v, hE)) : JD cX6_readBranches 5 RX6 "readBranches" (some .boolean) (kd + 3) 15 [(0, .inr (.inr (a0))), (1, .inl (a1)), (2, .inl (a2))] [] h hE (some (.inl (v))) := by
  unfold b_X6_readBranches_15 at hf
  obtain ⟨x1, e1, hf⟩ := bnd hf
  obtain ⟨x2, e2, hf⟩ := bnd hf
  have mE : hp_n h ≤ hp_n hE ∧ hp_s h ≤ hp_s hE := by
    by_cases hc : x2 = (10 : Int32)
    · rw [if_pos hc] at hf; exact (q_X6_readBranches_29 hrc hf).1
    · rw [if_neg hc] at hf; exact (q_X6_readBranches_60 hrc hf).1
  refine ⟨by omega, fun X g K ok nmx lev hK en => ?_⟩
  refine tj_iconst (v := -1) ok dX6_readBranches_15 (by decide) ?_
  refine tj_istore_n (lv' := [(0, .inr (.inr (a0))), (1, .inl (a1)), (2, .inl (a2)), (3, .inl ((-1 : Int32)))]) ok dX6_readBranches_16 rfl (by decide) rfl ?_
  refine tj_aload_n ok 0 dX6_readBranches_17 rfl rfl ?_
  refine tj_getR (k := 2) ok fcX6 (by decide) wm_132 rfl (Or.inl ⟨_, rfl⟩) dX6_readBranches_18 e1 ?_
  refine tj_getI (k := 0) ok fcX7 (by decide) wm_1062 rfl (Or.inl rfl) dX6_readBranches_21 e2 ?_
  refine tj_bipush (v := 10) ok dX6_readBranches_24 (by decide) ?_
  refine tj_icmp_ne (tgt := 60) ok dX6_readBranches_26 (by decide) (fun hc => ?_) (fun hc => ?_)
  · rw [if_neg hc] at hf
    refine tj_sub (lv' := [(0, .inr (.inr (a0))), (1, .inl (a1)), (3, .inl ((-1 : Int32)))]) [0, 1, 3] rfl ?_
    exact (q_X6_readBranches_60 hrc hf).2 X g K ok nmx lev hK en
  · rw [if_pos hc] at hf
    refine tj_sub (lv' := [(0, .inr (.inr (a0))), (1, .inl (a1)), (2, .inl (a2))]) [0, 1, 2] rfl ?_
    exact (q_X6_readBranches_29 hrc hf).2 X g K ok nmx lev hK en
def b_X6_readBranches_13 (rc : Nat → Int32 → AH → Option (Int32 × AH))  (h : AH) : Option (Int32 × AH) :=
  ok_z (0 : Int32) h
set_option maxHeartbeats 4000000 in
set_option maxRecDepth 100000 in
theorem q_X6_readBranches_13 {rc : Nat → Int32 → AH → Option (Int32 × AH)} {kd : Nat} (hrc : ∀ {c0 : Nat} {c1 : Int32} {h h1 : AH} {v : Int32} , rc c0 c1 h = some (v, h1) → ∀ g : GT, CM g (kd) yX6_readBlock cX6_readBlock 3 (some .boolean) h [.inr (.inr (c0)), .inl (c1)] h1 (some (.inl (v)))) {h hE : AH} {v : Int32} (hf : b_X6_readBranches_13 rc  h = some (v, hE)) : JD cX6_readBranches 5 RX6 "readBranches" (some .boolean) (kd + 3) 13 [] [] h hE (some (.inl (v))) := by
  unfold b_X6_readBranches_13 at hf
  have mE : hp_n h ≤ hp_n hE ∧ hp_s h ≤ hp_s hE := by obtain ⟨-, q⟩ := of_if hf; cases q; exact ⟨Nat.le_refl _, Nat.le_refl _⟩
  refine ⟨by omega, fun X g K ok nmx lev hK en => ?_⟩
  refine tj_iconst (v := 0) ok dX6_readBranches_13 (by decide) ?_
  exact tj_zreturn ok hf en dX6_readBranches_14
def b_X6_readBranches_0 (rc : Nat → Int32 → AH → Option (Int32 × AH)) (a0 : Nat) (a1 : Int32) (h : AH) : Option (Int32 × AH) :=
  (g_i h a0 6 7).bind fun x1 => (ok_v h a0 6).bind fun x2 => (rc a0 x1 h).bind fun q3 => if q3.1 = 0 then b_X6_readBranches_13 rc q3.2 else b_X6_readBranches_15 rc a0 a1 x1 q3.2
set_option maxHeartbeats 4000000 in
set_option maxRecDepth 100000 in
theorem q_X6_readBranches_0 {rc : Nat → Int32 → AH → Option (Int32 × AH)} {kd : Nat} (hrc : ∀ {c0 : Nat} {c1 : Int32} {h h1 : AH} {v : Int32} , rc c0 c1 h = some (v, h1) → ∀ g : GT, CM g (kd) yX6_readBlock cX6_readBlock 3 (some .boolean) h [.inr (.inr (c0)), .inl (c1)] h1 (some (.inl (v)))) {a0 : Nat} {a1 : Int32} {h hE : AH} {v : Int32} (hf : b_X6_readBranches_0 rc a0 a1 h = some (v, hE)) : JD cX6_readBranches 5 RX6 "readBranches" (some .boolean) (kd + 3) 0 [(0, .inr (.inr (a0))), (1, .inl (a1))] [] h hE (some (.inl (v))) := by
  unfold b_X6_readBranches_0 at hf
  obtain ⟨x1, e1, hf⟩ := bnd hf
  obtain ⟨x2, e2, hf⟩ := bnd hf
  obtain ⟨⟨x3, h3⟩, e3, hf⟩ := bnd hf
  try dsimp only at hf
  have k3 := hrc e3
  have m3 := (k3 default_g).1
  have mE : hp_n h3 ≤ hp_n hE ∧ hp_s h3 ≤ hp_s hE := by
    by_cases hc : x3 = 0
    · rw [if_pos hc] at hf; exact (q_X6_readBranches_13 hrc hf).1
    · rw [if_neg hc] at hf; exact (q_X6_readBranches_15 hrc hf).1
  refine ⟨by omega, fun X g K ok nmx lev hK en => ?_⟩
  refine tj_aload_n ok 0 dX6_readBranches_0 rfl rfl ?_
  refine tj_getI (k := 7) ok fcX6 (by decide) wm_137 rfl (Or.inl rfl) dX6_readBranches_1 e1 ?_
  refine tj_istore_n (lv' := [(0, .inr (.inr (a0))), (1, .inl (a1)), (2, .inl (x1))]) ok dX6_readBranches_4 rfl (by decide) rfl ?_
  refine tj_aload_n ok 0 dX6_readBranches_5 rfl rfl ?_
  refine tj_iload_n ok 2 dX6_readBranches_6 rfl rfl ?_
  refine tj_callV (rest := ([] : List TV).map (vl g)) (as := [.inl (x1)]) ok lev (by omega) fcX6.1 (by decide) rfl (of_if e2).1 (k3 g) (CaX.of en (by omega)) kn_X6_readBlock wm_1082 wm_1083 wm_1084 (rs_ok (Nat.le_of_ble_eq_true rfl)) rfl rfl dX6_readBranches_7 ?_
  refine tj_if_ne (tgt := 15) ok dX6_readBranches_10 (by decide) (fun hc => ?_) (fun hc => ?_)
  · rw [if_neg hc] at hf
    exact (q_X6_readBranches_15 hrc hf).2 X g K ok nmx lev hK en
  · rw [if_pos hc] at hf
    refine tj_sub (lv' := []) [] rfl ?_
    exact (q_X6_readBranches_13 hrc hf).2 X g K ok nmx lev hK en
def f_X6_readBranches (rc : Nat → Int32 → AH → Option (Int32 × AH)) (a0 : Nat) (a1 : Int32) (h : AH) : Option (Int32 × AH) := b_X6_readBranches_0 rc  a0 a1 h
theorem c_X6_readBranches {rc : Nat → Int32 → AH → Option (Int32 × AH)} {kd : Nat} (hrc : ∀ {c0 : Nat} {c1 : Int32} {h h1 : AH} {v : Int32} , rc c0 c1 h = some (v, h1) → ∀ g : GT, CM g (kd) yX6_readBlock cX6_readBlock 3 (some .boolean) h [.inr (.inr (c0)), .inl (c1)] h1 (some (.inl (v)))) {a0 : Nat} {a1 : Int32} {h hE : AH} {v : Int32} (hf : f_X6_readBranches rc a0 a1 h = some (v, hE)) : ∀ g : GT, CM g (kd + 3) yX6_readBranches cX6_readBranches 5 (some .boolean) h [.inr (.inr (a0)), .inl (a1)] hE (some (.inl (v))) :=
  CM.ofJ (by decide) (by show _ ≤ 5; exact Nat.le_of_ble_eq_true rfl) (q_X6_readBranches_0 hrc hf)
/-! ===== LitmusHouse$Reader.refuseToken()Z ===== -/
def b_X6_refuseToken_0 (a0 : Nat) (h : AH) : Option (Int32 × AH) :=
  (g_r h a0 6 2).bind fun x1 => (g_i h x1 7 2).bind fun x2 => (ok_v h a0 6).bind fun x3 => (f_X6_refuse a0 (1 : Int32) x2 h).bind fun q4 => ok_z q4.1 q4.2
set_option maxHeartbeats 4000000 in
set_option maxRecDepth 100000 in
theorem q_X6_refuseToken_0 {a0 : Nat} {h hE : AH} {v : Int32} (hf : b_X6_refuseToken_0 a0 h = some (v, hE)) : JD cX6_refuseToken 1 RX6 "refuseToken" (some .boolean) (3) 0 [(0, .inr (.inr (a0)))] [] h hE (some (.inl (v))) := by
  unfold b_X6_refuseToken_0 at hf
  obtain ⟨x1, e1, hf⟩ := bnd hf
  obtain ⟨x2, e2, hf⟩ := bnd hf
  obtain ⟨x3, e3, hf⟩ := bnd hf
  obtain ⟨⟨x4, h4⟩, e4, hf⟩ := bnd hf
  try dsimp only at hf
  have k4 := c_X6_refuse e4
  have m4 := (k4 default_g).1
  have mE : hp_n h4 ≤ hp_n hE ∧ hp_s h4 ≤ hp_s hE := by obtain ⟨-, q⟩ := of_if hf; cases q; exact ⟨Nat.le_refl _, Nat.le_refl _⟩
  refine ⟨by omega, fun X g K ok nmx lev hK en => ?_⟩
  refine tj_aload_n ok 0 dX6_refuseToken_0 rfl rfl ?_
  refine tj_iconst (v := 1) ok dX6_refuseToken_1 (by decide) ?_
  refine tj_aload_n ok 0 dX6_refuseToken_2 rfl rfl ?_
  refine tj_getR (k := 2) ok fcX6 (by decide) wm_132 rfl (Or.inl ⟨_, rfl⟩) dX6_refuseToken_3 e1 ?_
  refine tj_getI (k := 2) ok fcX7 (by decide) wm_1040 rfl (Or.inl rfl) dX6_refuseToken_6 e2 ?_
  refine tj_callV (rest := ([] : List TV).map (vl g)) (as := [.inl ((1 : Int32)), .inl (x2)]) ok lev (by omega) fcX6.1 (by decide) rfl (of_if e3).1 (k4 g) (CaX.of en (by omega)) kn_X6_refuse wm_1041 wm_1042 wm_1043 (rs_ok (Nat.le_of_ble_eq_true rfl)) rfl rfl dX6_refuseToken_9 ?_
  exact tj_zreturn ok hf en dX6_refuseToken_12
def f_X6_refuseToken (a0 : Nat) (h : AH) : Option (Int32 × AH) := b_X6_refuseToken_0  a0 h
theorem c_X6_refuseToken {a0 : Nat} {h hE : AH} {v : Int32} (hf : f_X6_refuseToken a0 h = some (v, hE)) : ∀ g : GT, CM g (3) yX6_refuseToken cX6_refuseToken 1 (some .boolean) h [.inr (.inr (a0))] hE (some (.inl (v))) :=
  CM.ofJ (by decide) (by show _ ≤ 1; exact Nat.le_of_ble_eq_true rfl) (q_X6_refuseToken_0 hf)
/-! ===== LitmusHouse$Reader.readIf()Z ===== -/
def b_X6_readIf_108 (rc : Nat → Int32 → AH → Option (Int32 × AH)) (a0 : Nat) (a1 : Int32) (a2 : Int32) (h : AH) : Option (Int32 × AH) :=
  (g_i h a0 6 8).bind fun x1 => (p_i h a0 6 8 (x1 + (1 : Int32))).bind fun h2 => (g_r h2 a0 6 5).bind fun x3 => (ok_v h2 x3 0).bind fun x4 => (f_X0_add x3 (7 : Int32) a1 (-1 : Int32) a2 (-1 : Int32) h2).bind fun q5 => (ok_v q5.2 a0 6).bind fun x6 => (f_X6_readBranches rc a0 q5.1 q5.2).bind fun q7 => (g_i q7.2 a0 6 8).bind fun x8 => (p_i q7.2 a0 6 8 (x8 - (1 : Int32))).bind fun h9 => ok_z q7.1 h9
set_option maxHeartbeats 4000000 in
set_option maxRecDepth 100000 in
theorem q_X6_readIf_108 {rc : Nat → Int32 → AH → Option (Int32 × AH)} {kd : Nat} (hrc : ∀ {c0 : Nat} {c1 : Int32} {h h1 : AH} {v : Int32} , rc c0 c1 h = some (v, h1) → ∀ g : GT, CM g (kd) yX6_readBlock cX6_readBlock 3 (some .boolean) h [.inr (.inr (c0)), .inl (c1)] h1 (some (.inl (v)))) {a0 : Nat} {a1 : Int32} {a2 : Int32} {h hE : AH} {v : Int32} (hf : b_X6_readIf_108 rc a0 a1 a2 h = some (v, hE)) : JD cX6_readIf 4 RX6 "readIf" (some .boolean) (kd + 4) 108 [(0, .inr (.inr (a0))), (1, .inl (a1)), (2, .inl (a2))] [] h hE (some (.inl (v))) := by
  unfold b_X6_readIf_108 at hf
  obtain ⟨x1, e1, hf⟩ := bnd hf
  obtain ⟨h2, e2, hf⟩ := bnd hf
  have m2 := nn_pi e2
  obtain ⟨x3, e3, hf⟩ := bnd hf
  obtain ⟨x4, e4, hf⟩ := bnd hf
  obtain ⟨⟨x5, h5⟩, e5, hf⟩ := bnd hf
  try dsimp only at hf
  have k5 := c_X0_add e5
  have m5 := (k5 default_g).1
  obtain ⟨x6, e6, hf⟩ := bnd hf
  obtain ⟨⟨x7, h7⟩, e7, hf⟩ := bnd hf
  try dsimp only at hf
  have k7 := c_X6_readBranches (rc := rc) hrc e7
  have m7 := (k7 default_g).1
  obtain ⟨x8, e8, hf⟩ := bnd hf
  obtain ⟨h9, e9, hf⟩ := bnd hf
  have m9 := nn_pi e9
  have mE : hp_n h9 ≤ hp_n hE ∧ hp_s h9 ≤ hp_s hE := by obtain ⟨-, q⟩ := of_if hf; cases q; exact ⟨Nat.le_refl _, Nat.le_refl _⟩
  refine ⟨by omega, fun X g K ok nmx lev hK en => ?_⟩
  refine tj_aload_n ok 0 dX6_readIf_108 rfl rfl ?_
  refine tj_dupa ok dX6_readIf_109 ?_
  refine tj_getI (k := 8) ok fcX6 (by decide) wm_138 rfl (Or.inl rfl) dX6_readIf_110 e1 ?_
  refine tj_iconst (v := 1) ok dX6_readIf_113 (by decide) ?_
  refine tj_iadd ok dX6_readIf_114 ?_
  refine tj_putI (k := 8) ok fcX6 (by decide) wm_138 rfl (Or.inl rfl) rfl dX6_readIf_115 e2 ?_
  refine tj_aload_n ok 0 dX6_readIf_118 rfl rfl ?_
  refine tj_aload_n ok 0 dX6_readIf_119 rfl rfl ?_
  refine tj_getR (k := 5) ok fcX6 (by decide) wm_135 rfl (Or.inl ⟨_, rfl⟩) dX6_readIf_120 e3 ?_
  refine tj_bipush (v := 7) ok dX6_readIf_123 (by decide) ?_
  refine tj_iload_n ok 1 dX6_readIf_125 rfl rfl ?_
  refine tj_iconst (v := -1) ok dX6_readIf_126 (by decide) ?_
  refine tj_iload_n ok 2 dX6_readIf_127 rfl rfl ?_
  refine tj_iconst (v := -1) ok dX6_readIf_128 (by decide) ?_
  refine tj_callV (rest := ([.inr (.inr (a0))] : List TV).map (vl g)) (as := [.inl ((7 : Int32)), .inl (a1), .inl ((-1 : Int32)), .inl (a2), .inl ((-1 : Int32))]) ok lev (by omega) fcX0.1 (by decide) rfl (of_if e4).1 (k5 g) (CaX.of en (by omega)) kn_X0_add wm_1081 wm_71 wm_72 (rs_ok (Nat.le_of_ble_eq_true rfl)) rfl rfl dX6_readIf_129 ?_
  refine tj_callV (rest := ([] : List TV).map (vl g)) (as := [.inl (x5)]) ok lev (by omega) fcX6.1 (by decide) rfl (of_if e6).1 (k7 g) (CaX.of en (by omega)) kn_X6_readBranches wm_1087 wm_1088 wm_1089 (rs_ok (Nat.le_of_ble_eq_true rfl)) rfl rfl dX6_readIf_132 ?_
  refine tj_istore_n (lv' := [(0, .inr (.inr (a0))), (1, .inl (a1)), (2, .inl (a2)), (3, .inl (x7))]) ok dX6_readIf_135 rfl (by decide) rfl ?_
  refine tj_aload_n ok 0 dX6_readIf_136 rfl rfl ?_
  refine tj_dupa ok dX6_readIf_137 ?_
  refine tj_getI (k := 8) ok fcX6 (by decide) wm_138 rfl (Or.inl rfl) dX6_readIf_138 e8 ?_
  refine tj_iconst (v := 1) ok dX6_readIf_141 (by decide) ?_
  refine tj_isub ok dX6_readIf_142 ?_
  refine tj_putI (k := 8) ok fcX6 (by decide) wm_138 rfl (Or.inl rfl) rfl dX6_readIf_143 e9 ?_
  refine tj_iload_n ok 3 dX6_readIf_146 rfl rfl ?_
  exact tj_zreturn ok hf en dX6_readIf_147
def b_X6_readIf_106 (rc : Nat → Int32 → AH → Option (Int32 × AH))  (h : AH) : Option (Int32 × AH) :=
  ok_z (0 : Int32) h
set_option maxHeartbeats 4000000 in
set_option maxRecDepth 100000 in
theorem q_X6_readIf_106 {rc : Nat → Int32 → AH → Option (Int32 × AH)} {kd : Nat} (hrc : ∀ {c0 : Nat} {c1 : Int32} {h h1 : AH} {v : Int32} , rc c0 c1 h = some (v, h1) → ∀ g : GT, CM g (kd) yX6_readBlock cX6_readBlock 3 (some .boolean) h [.inr (.inr (c0)), .inl (c1)] h1 (some (.inl (v)))) {h hE : AH} {v : Int32} (hf : b_X6_readIf_106 rc  h = some (v, hE)) : JD cX6_readIf 4 RX6 "readIf" (some .boolean) (kd + 4) 106 [] [] h hE (some (.inl (v))) := by
  unfold b_X6_readIf_106 at hf
  have mE : hp_n h ≤ hp_n hE ∧ hp_s h ≤ hp_s hE := by obtain ⟨-, q⟩ := of_if hf; cases q; exact ⟨Nat.le_refl _, Nat.le_refl _⟩
  refine ⟨by omega, fun X g K ok nmx lev hK en => ?_⟩
  refine tj_iconst (v := 0) ok dX6_readIf_106 (by decide) ?_
  exact tj_zreturn ok hf en dX6_readIf_107
def b_X6_readIf_89 (rc : Nat → Int32 → AH → Option (Int32 × AH)) (a0 : Nat) (a1 : Int32) (h : AH) : Option (Int32 × AH) :=
  (g_r h a0 6 2).bind fun x1 => (g_i h x1 7 1).bind fun x2 => (ok_v h a0 6).bind fun x3 => (f_X6_pass a0 (14 : Int32) h).bind fun q4 => if q4.1 = 0 then b_X6_readIf_106 rc q4.2 else b_X6_readIf_108 rc a0 a1 x2 q4.2
set_option maxHeartbeats 4000000 in
set_option maxRecDepth 100000 in
theorem q_X6_readIf_89 {rc : Nat → Int32 → AH → Option (Int32 × AH)} {kd : Nat} (hrc : ∀ {c0 : Nat} {c1 : Int32} {h h1 : AH} {v : Int32} , rc c0 c1 h = some (v, h1) → ∀ g : GT, CM g (kd) yX6_readBlock cX6_readBlock 3 (some .boolean) h [.inr (.inr (c0)), .inl (c1)] h1 (some (.inl (v)))) {a0 : Nat} {a1 : Int32} {h hE : AH} {v : Int32} (hf : b_X6_readIf_89 rc a0 a1 h = some (v, hE)) : JD cX6_readIf 4 RX6 "readIf" (some .boolean) (kd + 4) 89 [(0, .inr (.inr (a0))), (1, .inl (a1))] [] h hE (some (.inl (v))) := by
  unfold b_X6_readIf_89 at hf
  obtain ⟨x1, e1, hf⟩ := bnd hf
  obtain ⟨x2, e2, hf⟩ := bnd hf
  obtain ⟨x3, e3, hf⟩ := bnd hf
  obtain ⟨⟨x4, h4⟩, e4, hf⟩ := bnd hf
  try dsimp only at hf
  have k4 := c_X6_pass e4
  have m4 := (k4 default_g).1
  have mE : hp_n h4 ≤ hp_n hE ∧ hp_s h4 ≤ hp_s hE := by
    by_cases hc : x4 = 0
    · rw [if_pos hc] at hf; exact (q_X6_readIf_106 hrc hf).1
    · rw [if_neg hc] at hf; exact (q_X6_readIf_108 hrc hf).1
  refine ⟨by omega, fun X g K ok nmx lev hK en => ?_⟩
  refine tj_aload_n ok 0 dX6_readIf_89 rfl rfl ?_
  refine tj_getR (k := 2) ok fcX6 (by decide) wm_132 rfl (Or.inl ⟨_, rfl⟩) dX6_readIf_90 e1 ?_
  refine tj_getI (k := 1) ok fcX7 (by decide) wm_1045 rfl (Or.inl rfl) dX6_readIf_93 e2 ?_
  refine tj_istore_n (lv' := [(0, .inr (.inr (a0))), (1, .inl (a1)), (2, .inl (x2))]) ok dX6_readIf_96 rfl (by decide) rfl ?_
  refine tj_aload_n ok 0 dX6_readIf_97 rfl rfl ?_
  refine tj_bipush (v := 14) ok dX6_readIf_98 (by decide) ?_
  refine tj_callV (rest := ([] : List TV).map (vl g)) (as := [.inl ((14 : Int32))]) ok lev (by omega) fcX6.1 (by decide) rfl (of_if e3).1 (k4 g) (CaX.of en (by omega)) kn_X6_pass wm_1067 wm_1068 wm_1069 (rs_ok (Nat.le_of_ble_eq_true rfl)) rfl rfl dX6_readIf_100 ?_
  refine tj_if_ne (tgt := 108) ok dX6_readIf_103 (by decide) (fun hc => ?_) (fun hc => ?_)
  · rw [if_neg hc] at hf
    exact (q_X6_readIf_108 hrc hf).2 X g K ok nmx lev hK en
  · rw [if_pos hc] at hf
    refine tj_sub (lv' := []) [] rfl ?_
    exact (q_X6_readIf_106 hrc hf).2 X g K ok nmx lev hK en
def b_X6_readIf_87 (rc : Nat → Int32 → AH → Option (Int32 × AH))  (h : AH) : Option (Int32 × AH) :=
  ok_z (0 : Int32) h
set_option maxHeartbeats 4000000 in
set_option maxRecDepth 100000 in
theorem q_X6_readIf_87 {rc : Nat → Int32 → AH → Option (Int32 × AH)} {kd : Nat} (hrc : ∀ {c0 : Nat} {c1 : Int32} {h h1 : AH} {v : Int32} , rc c0 c1 h = some (v, h1) → ∀ g : GT, CM g (kd) yX6_readBlock cX6_readBlock 3 (some .boolean) h [.inr (.inr (c0)), .inl (c1)] h1 (some (.inl (v)))) {h hE : AH} {v : Int32} (hf : b_X6_readIf_87 rc  h = some (v, hE)) : JD cX6_readIf 4 RX6 "readIf" (some .boolean) (kd + 4) 87 [] [] h hE (some (.inl (v))) := by
  unfold b_X6_readIf_87 at hf
  have mE : hp_n h ≤ hp_n hE ∧ hp_s h ≤ hp_s hE := by obtain ⟨-, q⟩ := of_if hf; cases q; exact ⟨Nat.le_refl _, Nat.le_refl _⟩
  refine ⟨by omega, fun X g K ok nmx lev hK en => ?_⟩
  refine tj_iconst (v := 0) ok dX6_readIf_87 (by decide) ?_
  exact tj_zreturn ok hf en dX6_readIf_88
def b_X6_readIf_63 (rc : Nat → Int32 → AH → Option (Int32 × AH)) (a0 : Nat) (h : AH) : Option (Int32 × AH) :=
  (g_r h a0 6 2).bind fun x1 => (g_i h x1 7 1).bind fun x2 => (g_r h a0 6 2).bind fun x3 => (ok_v h x3 7).bind fun x4 => (f_X7_advance x3 h).bind fun h5 => (ok_v h5 a0 6).bind fun x6 => (f_X6_pass a0 (17 : Int32) h5).bind fun q7 => if q7.1 = 0 then b_X6_readIf_87 rc q7.2 else b_X6_readIf_89 rc a0 x2 q7.2
set_option maxHeartbeats 4000000 in
set_option maxRecDepth 100000 in
theorem q_X6_readIf_63 {rc : Nat → Int32 → AH → Option (Int32 × AH)} {kd : Nat} (hrc : ∀ {c0 : Nat} {c1 : Int32} {h h1 : AH} {v : Int32} , rc c0 c1 h = some (v, h1) → ∀ g : GT, CM g (kd) yX6_readBlock cX6_readBlock 3 (some .boolean) h [.inr (.inr (c0)), .inl (c1)] h1 (some (.inl (v)))) {a0 : Nat} {h hE : AH} {v : Int32} (hf : b_X6_readIf_63 rc a0 h = some (v, hE)) : JD cX6_readIf 4 RX6 "readIf" (some .boolean) (kd + 4) 63 [(0, .inr (.inr (a0)))] [] h hE (some (.inl (v))) := by
  unfold b_X6_readIf_63 at hf
  obtain ⟨x1, e1, hf⟩ := bnd hf
  obtain ⟨x2, e2, hf⟩ := bnd hf
  obtain ⟨x3, e3, hf⟩ := bnd hf
  obtain ⟨x4, e4, hf⟩ := bnd hf
  obtain ⟨h5, e5, hf⟩ := bnd hf
  have k5 := c_X7_advance e5
  have m5 := (k5 default_g).1
  obtain ⟨x6, e6, hf⟩ := bnd hf
  obtain ⟨⟨x7, h7⟩, e7, hf⟩ := bnd hf
  try dsimp only at hf
  have k7 := c_X6_pass e7
  have m7 := (k7 default_g).1
  have mE : hp_n h7 ≤ hp_n hE ∧ hp_s h7 ≤ hp_s hE := by
    by_cases hc : x7 = 0
    · rw [if_pos hc] at hf; exact (q_X6_readIf_87 hrc hf).1
    · rw [if_neg hc] at hf; exact (q_X6_readIf_89 hrc hf).1
  refine ⟨by omega, fun X g K ok nmx lev hK en => ?_⟩
  refine tj_aload_n ok 0 dX6_readIf_63 rfl rfl ?_
  refine tj_getR (k := 2) ok fcX6 (by decide) wm_132 rfl (Or.inl ⟨_, rfl⟩) dX6_readIf_64 e1 ?_
  refine tj_getI (k := 1) ok fcX7 (by decide) wm_1045 rfl (Or.inl rfl) dX6_readIf_67 e2 ?_
  refine tj_istore_n (lv' := [(0, .inr (.inr (a0))), (1, .inl (x2))]) ok dX6_readIf_70 rfl (by decide) rfl ?_
  refine tj_aload_n ok 0 dX6_readIf_71 rfl rfl ?_
  refine tj_getR (k := 2) ok fcX6 (by decide) wm_132 rfl (Or.inl ⟨_, rfl⟩) dX6_readIf_72 e3 ?_
  refine tj_callV (rest := ([] : List TV).map (vl g)) (as := []) ok lev (by omega) fcX7.1 (by decide) rfl (of_if e4).1 (k5 g) (CaX.of en (by omega)) kn_X7_advance wm_1060 wm_1025 wm_1026 (rs_ok (Nat.le_of_ble_eq_true rfl)) rfl rfl dX6_readIf_75 ?_
  refine tj_aload_n ok 0 dX6_readIf_78 rfl rfl ?_
  refine tj_bipush (v := 17) ok dX6_readIf_79 (by decide) ?_
  refine tj_callV (rest := ([] : List TV).map (vl g)) (as := [.inl ((17 : Int32))]) ok lev (by omega) fcX6.1 (by decide) rfl (of_if e6).1 (k7 g) (CaX.of en (by omega)) kn_X6_pass wm_1067 wm_1068 wm_1069 (rs_ok (Nat.le_of_ble_eq_true rfl)) rfl rfl dX6_readIf_81 ?_
  refine tj_if_ne (tgt := 89) ok dX6_readIf_84 (by decide) (fun hc => ?_) (fun hc => ?_)
  · rw [if_neg hc] at hf
    exact (q_X6_readIf_89 hrc hf).2 X g K ok nmx lev hK en
  · rw [if_pos hc] at hf
    refine tj_sub (lv' := []) [] rfl ?_
    exact (q_X6_readIf_87 hrc hf).2 X g K ok nmx lev hK en
def b_X6_readIf_61 (rc : Nat → Int32 → AH → Option (Int32 × AH))  (h : AH) : Option (Int32 × AH) :=
  ok_z (0 : Int32) h
set_option maxHeartbeats 4000000 in
set_option maxRecDepth 100000 in
theorem q_X6_readIf_61 {rc : Nat → Int32 → AH → Option (Int32 × AH)} {kd : Nat} (hrc : ∀ {c0 : Nat} {c1 : Int32} {h h1 : AH} {v : Int32} , rc c0 c1 h = some (v, h1) → ∀ g : GT, CM g (kd) yX6_readBlock cX6_readBlock 3 (some .boolean) h [.inr (.inr (c0)), .inl (c1)] h1 (some (.inl (v)))) {h hE : AH} {v : Int32} (hf : b_X6_readIf_61 rc  h = some (v, hE)) : JD cX6_readIf 4 RX6 "readIf" (some .boolean) (kd + 4) 61 [] [] h hE (some (.inl (v))) := by
  unfold b_X6_readIf_61 at hf
  have mE : hp_n h ≤ hp_n hE ∧ hp_s h ≤ hp_s hE := by obtain ⟨-, q⟩ := of_if hf; cases q; exact ⟨Nat.le_refl _, Nat.le_refl _⟩
  refine ⟨by omega, fun X g K ok nmx lev hK en => ?_⟩
  refine tj_iconst (v := 0) ok dX6_readIf_61 (by decide) ?_
  exact tj_zreturn ok hf en dX6_readIf_62
def b_X6_readIf_54 (rc : Nat → Int32 → AH → Option (Int32 × AH)) (a0 : Nat) (h : AH) : Option (Int32 × AH) :=
  (ok_v h a0 6).bind fun x1 => (f_X6_checkLocal a0 h).bind fun q2 => if q2.1 = 0 then b_X6_readIf_61 rc q2.2 else b_X6_readIf_63 rc a0 q2.2
set_option maxHeartbeats 4000000 in
set_option maxRecDepth 100000 in
theorem q_X6_readIf_54 {rc : Nat → Int32 → AH → Option (Int32 × AH)} {kd : Nat} (hrc : ∀ {c0 : Nat} {c1 : Int32} {h h1 : AH} {v : Int32} , rc c0 c1 h = some (v, h1) → ∀ g : GT, CM g (kd) yX6_readBlock cX6_readBlock 3 (some .boolean) h [.inr (.inr (c0)), .inl (c1)] h1 (some (.inl (v)))) {a0 : Nat} {h hE : AH} {v : Int32} (hf : b_X6_readIf_54 rc a0 h = some (v, hE)) : JD cX6_readIf 4 RX6 "readIf" (some .boolean) (kd + 4) 54 [(0, .inr (.inr (a0)))] [] h hE (some (.inl (v))) := by
  unfold b_X6_readIf_54 at hf
  obtain ⟨x1, e1, hf⟩ := bnd hf
  obtain ⟨⟨x2, h2⟩, e2, hf⟩ := bnd hf
  try dsimp only at hf
  have k2 := c_X6_checkLocal e2
  have m2 := (k2 default_g).1
  have mE : hp_n h2 ≤ hp_n hE ∧ hp_s h2 ≤ hp_s hE := by
    by_cases hc : x2 = 0
    · rw [if_pos hc] at hf; exact (q_X6_readIf_61 hrc hf).1
    · rw [if_neg hc] at hf; exact (q_X6_readIf_63 hrc hf).1
  refine ⟨by omega, fun X g K ok nmx lev hK en => ?_⟩
  refine tj_aload_n ok 0 dX6_readIf_54 rfl rfl ?_
  refine tj_callV (rest := ([] : List TV).map (vl g)) (as := []) ok lev (by omega) fcX6.1 (by decide) rfl (of_if e1).1 (k2 g) (CaX.of en (by omega)) kn_X6_checkLocal wm_1090 wm_1091 wm_1092 (rs_ok (Nat.le_of_ble_eq_true rfl)) rfl rfl dX6_readIf_55 ?_
  refine tj_if_ne (tgt := 63) ok dX6_readIf_58 (by decide) (fun hc => ?_) (fun hc => ?_)
  · rw [if_neg hc] at hf
    exact (q_X6_readIf_63 hrc hf).2 X g K ok nmx lev hK en
  · rw [if_pos hc] at hf
    refine tj_sub (lv' := []) [] rfl ?_
    exact (q_X6_readIf_61 hrc hf).2 X g K ok nmx lev hK en
def b_X6_readIf_49 (rc : Nat → Int32 → AH → Option (Int32 × AH)) (a0 : Nat) (h : AH) : Option (Int32 × AH) :=
  (ok_v h a0 6).bind fun x1 => (f_X6_refuseToken a0 h).bind fun q2 => ok_z q2.1 q2.2
set_option maxHeartbeats 4000000 in
set_option maxRecDepth 100000 in
theorem q_X6_readIf_49 {rc : Nat → Int32 → AH → Option (Int32 × AH)} {kd : Nat} (hrc : ∀ {c0 : Nat} {c1 : Int32} {h h1 : AH} {v : Int32} , rc c0 c1 h = some (v, h1) → ∀ g : GT, CM g (kd) yX6_readBlock cX6_readBlock 3 (some .boolean) h [.inr (.inr (c0)), .inl (c1)] h1 (some (.inl (v)))) {a0 : Nat} {h hE : AH} {v : Int32} (hf : b_X6_readIf_49 rc a0 h = some (v, hE)) : JD cX6_readIf 4 RX6 "readIf" (some .boolean) (kd + 4) 49 [(0, .inr (.inr (a0)))] [] h hE (some (.inl (v))) := by
  unfold b_X6_readIf_49 at hf
  obtain ⟨x1, e1, hf⟩ := bnd hf
  obtain ⟨⟨x2, h2⟩, e2, hf⟩ := bnd hf
  try dsimp only at hf
  have k2 := c_X6_refuseToken e2
  have m2 := (k2 default_g).1
  have mE : hp_n h2 ≤ hp_n hE ∧ hp_s h2 ≤ hp_s hE := by obtain ⟨-, q⟩ := of_if hf; cases q; exact ⟨Nat.le_refl _, Nat.le_refl _⟩
  refine ⟨by omega, fun X g K ok nmx lev hK en => ?_⟩
  refine tj_aload_n ok 0 dX6_readIf_49 rfl rfl ?_
  refine tj_callV (rest := ([] : List TV).map (vl g)) (as := []) ok lev (by omega) fcX6.1 (by decide) rfl (of_if e1).1 (k2 g) (CaX.of en (by omega)) kn_X6_refuseToken wm_1093 wm_1094 wm_1095 (rs_ok (Nat.le_of_ble_eq_true rfl)) rfl rfl dX6_readIf_50 ?_
  exact tj_zreturn ok hf en dX6_readIf_53
def b_X6_readIf_30 (rc : Nat → Int32 → AH → Option (Int32 × AH)) (a0 : Nat) (h : AH) : Option (Int32 × AH) :=
  (g_r h a0 6 2).bind fun x1 => (ok_v h x1 7).bind fun x2 => (f_X7_advance x1 h).bind fun h3 => (g_r h3 a0 6 2).bind fun x4 => (g_i h3 x4 7 0).bind fun x5 => if x5 = (12 : Int32) then b_X6_readIf_54 rc a0 h3 else b_X6_readIf_49 rc a0 h3
set_option maxHeartbeats 4000000 in
set_option maxRecDepth 100000 in
theorem q_X6_readIf_30 {rc : Nat → Int32 → AH → Option (Int32 × AH)} {kd : Nat} (hrc : ∀ {c0 : Nat} {c1 : Int32} {h h1 : AH} {v : Int32} , rc c0 c1 h = some (v, h1) → ∀ g : GT, CM g (kd) yX6_readBlock cX6_readBlock 3 (some .boolean) h [.inr (.inr (c0)), .inl (c1)] h1 (some (.inl (v)))) {a0 : Nat} {h hE : AH} {v : Int32} (hf : b_X6_readIf_30 rc a0 h = some (v, hE)) : JD cX6_readIf 4 RX6 "readIf" (some .boolean) (kd + 4) 30 [(0, .inr (.inr (a0)))] [] h hE (some (.inl (v))) := by
  unfold b_X6_readIf_30 at hf
  obtain ⟨x1, e1, hf⟩ := bnd hf
  obtain ⟨x2, e2, hf⟩ := bnd hf
  obtain ⟨h3, e3, hf⟩ := bnd hf
  have k3 := c_X7_advance e3
  have m3 := (k3 default_g).1
  obtain ⟨x4, e4, hf⟩ := bnd hf
  obtain ⟨x5, e5, hf⟩ := bnd hf
  have mE : hp_n h3 ≤ hp_n hE ∧ hp_s h3 ≤ hp_s hE := by
    by_cases hc : x5 = (12 : Int32)
    · rw [if_pos hc] at hf; exact (q_X6_readIf_54 hrc hf).1
    · rw [if_neg hc] at hf; exact (q_X6_readIf_49 hrc hf).1
  refine ⟨by omega, fun X g K ok nmx lev hK en => ?_⟩
  refine tj_aload_n ok 0 dX6_readIf_30 rfl rfl ?_
  refine tj_getR (k := 2) ok fcX6 (by decide) wm_132 rfl (Or.inl ⟨_, rfl⟩) dX6_readIf_31 e1 ?_
  refine tj_callV (rest := ([] : List TV).map (vl g)) (as := []) ok lev (by omega) fcX7.1 (by decide) rfl (of_if e2).1 (k3 g) (CaX.of en (by omega)) kn_X7_advance wm_1060 wm_1025 wm_1026 (rs_ok (Nat.le_of_ble_eq_true rfl)) rfl rfl dX6_readIf_34 ?_
  refine tj_aload_n ok 0 dX6_readIf_37 rfl rfl ?_
  refine tj_getR (k := 2) ok fcX6 (by decide) wm_132 rfl (Or.inl ⟨_, rfl⟩) dX6_readIf_38 e4 ?_
  refine tj_getI (k := 0) ok fcX7 (by decide) wm_1062 rfl (Or.inl rfl) dX6_readIf_41 e5 ?_
  refine tj_bipush (v := 12) ok dX6_readIf_44 (by decide) ?_
  refine tj_icmp_eq (tgt := 54) ok dX6_readIf_46 (by decide) (fun hc => ?_) (fun hc => ?_)
  · rw [if_pos hc] at hf
    exact (q_X6_readIf_54 hrc hf).2 X g K ok nmx lev hK en
  · rw [if_neg hc] at hf
    exact (q_X6_readIf_49 hrc hf).2 X g K ok nmx lev hK en
def b_X6_readIf_17 (rc : Nat → Int32 → AH → Option (Int32 × AH)) (a0 : Nat) (h : AH) : Option (Int32 × AH) :=
  (g_r h a0 6 2).bind fun x1 => (g_i h x1 7 2).bind fun x2 => (ok_v h a0 6).bind fun x3 => (f_X6_refuse a0 (4 : Int32) x2 h).bind fun q4 => ok_z q4.1 q4.2
set_option maxHeartbeats 4000000 in
set_option maxRecDepth 100000 in
theorem q_X6_readIf_17 {rc : Nat → Int32 → AH → Option (Int32 × AH)} {kd : Nat} (hrc : ∀ {c0 : Nat} {c1 : Int32} {h h1 : AH} {v : Int32} , rc c0 c1 h = some (v, h1) → ∀ g : GT, CM g (kd) yX6_readBlock cX6_readBlock 3 (some .boolean) h [.inr (.inr (c0)), .inl (c1)] h1 (some (.inl (v)))) {a0 : Nat} {h hE : AH} {v : Int32} (hf : b_X6_readIf_17 rc a0 h = some (v, hE)) : JD cX6_readIf 4 RX6 "readIf" (some .boolean) (kd + 4) 17 [(0, .inr (.inr (a0)))] [] h hE (some (.inl (v))) := by
  unfold b_X6_readIf_17 at hf
  obtain ⟨x1, e1, hf⟩ := bnd hf
  obtain ⟨x2, e2, hf⟩ := bnd hf
  obtain ⟨x3, e3, hf⟩ := bnd hf
  obtain ⟨⟨x4, h4⟩, e4, hf⟩ := bnd hf
  try dsimp only at hf
  have k4 := c_X6_refuse e4
  have m4 := (k4 default_g).1
  have mE : hp_n h4 ≤ hp_n hE ∧ hp_s h4 ≤ hp_s hE := by obtain ⟨-, q⟩ := of_if hf; cases q; exact ⟨Nat.le_refl _, Nat.le_refl _⟩
  refine ⟨by omega, fun X g K ok nmx lev hK en => ?_⟩
  refine tj_aload_n ok 0 dX6_readIf_17 rfl rfl ?_
  refine tj_iconst (v := 4) ok dX6_readIf_18 (by decide) ?_
  refine tj_aload_n ok 0 dX6_readIf_19 rfl rfl ?_
  refine tj_getR (k := 2) ok fcX6 (by decide) wm_132 rfl (Or.inl ⟨_, rfl⟩) dX6_readIf_20 e1 ?_
  refine tj_getI (k := 2) ok fcX7 (by decide) wm_1040 rfl (Or.inl rfl) dX6_readIf_23 e2 ?_
  refine tj_callV (rest := ([] : List TV).map (vl g)) (as := [.inl ((4 : Int32)), .inl (x2)]) ok lev (by omega) fcX6.1 (by decide) rfl (of_if e3).1 (k4 g) (CaX.of en (by omega)) kn_X6_refuse wm_1041 wm_1042 wm_1043 (rs_ok (Nat.le_of_ble_eq_true rfl)) rfl rfl dX6_readIf_26 ?_
  exact tj_zreturn ok hf en dX6_readIf_29
def b_X6_readIf_9 (rc : Nat → Int32 → AH → Option (Int32 × AH)) (a0 : Nat) (h : AH) : Option (Int32 × AH) :=
  (g_i h a0 6 8).bind fun x1 => if x1 < (3 : Int32) then b_X6_readIf_30 rc a0 h else b_X6_readIf_17 rc a0 h
set_option maxHeartbeats 4000000 in
set_option maxRecDepth 100000 in
theorem q_X6_readIf_9 {rc : Nat → Int32 → AH → Option (Int32 × AH)} {kd : Nat} (hrc : ∀ {c0 : Nat} {c1 : Int32} {h h1 : AH} {v : Int32} , rc c0 c1 h = some (v, h1) → ∀ g : GT, CM g (kd) yX6_readBlock cX6_readBlock 3 (some .boolean) h [.inr (.inr (c0)), .inl (c1)] h1 (some (.inl (v)))) {a0 : Nat} {h hE : AH} {v : Int32} (hf : b_X6_readIf_9 rc a0 h = some (v, hE)) : JD cX6_readIf 4 RX6 "readIf" (some .boolean) (kd + 4) 9 [(0, .inr (.inr (a0)))] [] h hE (some (.inl (v))) := by
  unfold b_X6_readIf_9 at hf
  obtain ⟨x1, e1, hf⟩ := bnd hf
  have mE : hp_n h ≤ hp_n hE ∧ hp_s h ≤ hp_s hE := by
    by_cases hc : x1 < (3 : Int32)
    · rw [if_pos hc] at hf; exact (q_X6_readIf_30 hrc hf).1
    · rw [if_neg hc] at hf; exact (q_X6_readIf_17 hrc hf).1
  refine ⟨by omega, fun X g K ok nmx lev hK en => ?_⟩
  refine tj_aload_n ok 0 dX6_readIf_9 rfl rfl ?_
  refine tj_getI (k := 8) ok fcX6 (by decide) wm_138 rfl (Or.inl rfl) dX6_readIf_10 e1 ?_
  refine tj_iconst (v := 3) ok dX6_readIf_13 (by decide) ?_
  refine tj_icmp_lt (tgt := 30) ok dX6_readIf_14 (by decide) (fun hc => ?_) (fun hc => ?_)
  · rw [if_pos hc] at hf
    exact (q_X6_readIf_30 hrc hf).2 X g K ok nmx lev hK en
  · rw [if_neg hc] at hf
    exact (q_X6_readIf_17 hrc hf).2 X g K ok nmx lev hK en
def b_X6_readIf_7 (rc : Nat → Int32 → AH → Option (Int32 × AH))  (h : AH) : Option (Int32 × AH) :=
  ok_z (0 : Int32) h
set_option maxHeartbeats 4000000 in
set_option maxRecDepth 100000 in
theorem q_X6_readIf_7 {rc : Nat → Int32 → AH → Option (Int32 × AH)} {kd : Nat} (hrc : ∀ {c0 : Nat} {c1 : Int32} {h h1 : AH} {v : Int32} , rc c0 c1 h = some (v, h1) → ∀ g : GT, CM g (kd) yX6_readBlock cX6_readBlock 3 (some .boolean) h [.inr (.inr (c0)), .inl (c1)] h1 (some (.inl (v)))) {h hE : AH} {v : Int32} (hf : b_X6_readIf_7 rc  h = some (v, hE)) : JD cX6_readIf 4 RX6 "readIf" (some .boolean) (kd + 4) 7 [] [] h hE (some (.inl (v))) := by
  unfold b_X6_readIf_7 at hf
  have mE : hp_n h ≤ hp_n hE ∧ hp_s h ≤ hp_s hE := by obtain ⟨-, q⟩ := of_if hf; cases q; exact ⟨Nat.le_refl _, Nat.le_refl _⟩
  refine ⟨by omega, fun X g K ok nmx lev hK en => ?_⟩
  refine tj_iconst (v := 0) ok dX6_readIf_7 (by decide) ?_
  exact tj_zreturn ok hf en dX6_readIf_8
def b_X6_readIf_0 (rc : Nat → Int32 → AH → Option (Int32 × AH)) (a0 : Nat) (h : AH) : Option (Int32 × AH) :=
  (ok_v h a0 6).bind fun x1 => (f_X6_countStatement a0 h).bind fun q2 => if q2.1 = 0 then b_X6_readIf_7 rc q2.2 else b_X6_readIf_9 rc a0 q2.2
set_option maxHeartbeats 4000000 in
set_option maxRecDepth 100000 in
theorem q_X6_readIf_0 {rc : Nat → Int32 → AH → Option (Int32 × AH)} {kd : Nat} (hrc : ∀ {c0 : Nat} {c1 : Int32} {h h1 : AH} {v : Int32} , rc c0 c1 h = some (v, h1) → ∀ g : GT, CM g (kd) yX6_readBlock cX6_readBlock 3 (some .boolean) h [.inr (.inr (c0)), .inl (c1)] h1 (some (.inl (v)))) {a0 : Nat} {h hE : AH} {v : Int32} (hf : b_X6_readIf_0 rc a0 h = some (v, hE)) : JD cX6_readIf 4 RX6 "readIf" (some .boolean) (kd + 4) 0 [(0, .inr (.inr (a0)))] [] h hE (some (.inl (v))) := by
  unfold b_X6_readIf_0 at hf
  obtain ⟨x1, e1, hf⟩ := bnd hf
  obtain ⟨⟨x2, h2⟩, e2, hf⟩ := bnd hf
  try dsimp only at hf
  have k2 := c_X6_countStatement e2
  have m2 := (k2 default_g).1
  have mE : hp_n h2 ≤ hp_n hE ∧ hp_s h2 ≤ hp_s hE := by
    by_cases hc : x2 = 0
    · rw [if_pos hc] at hf; exact (q_X6_readIf_7 hrc hf).1
    · rw [if_neg hc] at hf; exact (q_X6_readIf_9 hrc hf).1
  refine ⟨by omega, fun X g K ok nmx lev hK en => ?_⟩
  refine tj_aload_n ok 0 dX6_readIf_0 rfl rfl ?_
  refine tj_callV (rest := ([] : List TV).map (vl g)) (as := []) ok lev (by omega) fcX6.1 (by decide) rfl (of_if e1).1 (k2 g) (CaX.of en (by omega)) kn_X6_countStatement wm_1076 wm_1077 wm_1078 (rs_ok (Nat.le_of_ble_eq_true rfl)) rfl rfl dX6_readIf_1 ?_
  refine tj_if_ne (tgt := 9) ok dX6_readIf_4 (by decide) (fun hc => ?_) (fun hc => ?_)
  · rw [if_neg hc] at hf
    exact (q_X6_readIf_9 hrc hf).2 X g K ok nmx lev hK en
  · rw [if_pos hc] at hf
    refine tj_sub (lv' := []) [] rfl ?_
    exact (q_X6_readIf_7 hrc hf).2 X g K ok nmx lev hK en
def f_X6_readIf (rc : Nat → Int32 → AH → Option (Int32 × AH)) (a0 : Nat) (h : AH) : Option (Int32 × AH) := b_X6_readIf_0 rc  a0 h
theorem c_X6_readIf {rc : Nat → Int32 → AH → Option (Int32 × AH)} {kd : Nat} (hrc : ∀ {c0 : Nat} {c1 : Int32} {h h1 : AH} {v : Int32} , rc c0 c1 h = some (v, h1) → ∀ g : GT, CM g (kd) yX6_readBlock cX6_readBlock 3 (some .boolean) h [.inr (.inr (c0)), .inl (c1)] h1 (some (.inl (v)))) {a0 : Nat} {h hE : AH} {v : Int32} (hf : f_X6_readIf rc a0 h = some (v, hE)) : ∀ g : GT, CM g (kd + 4) yX6_readIf cX6_readIf 4 (some .boolean) h [.inr (.inr (a0))] hE (some (.inl (v))) :=
  CM.ofJ (by decide) (by show _ ≤ 4; exact Nat.le_of_ble_eq_true rfl) (q_X6_readIf_0 hrc hf)
/-! ===== LitmusHouse$Reader.readPlus()Z ===== -/
def b_X6_readPlus_20  (h : AH) : Option (Int32 × AH) :=
  ok_z (1 : Int32) h
set_option maxHeartbeats 4000000 in
set_option maxRecDepth 100000 in
theorem q_X6_readPlus_20 {h hE : AH} {v : Int32} (hf : b_X6_readPlus_20  h = some (v, hE)) : JD cX6_readPlus 1 RX6 "readPlus" (some .boolean) (4) 20 [] [] h hE (some (.inl (v))) := by
  unfold b_X6_readPlus_20 at hf
  have mE : hp_n h ≤ hp_n hE ∧ hp_s h ≤ hp_s hE := by obtain ⟨-, q⟩ := of_if hf; cases q; exact ⟨Nat.le_refl _, Nat.le_refl _⟩
  refine ⟨by omega, fun X g K ok nmx lev hK en => ?_⟩
  refine tj_iconst (v := 1) ok dX6_readPlus_20 (by decide) ?_
  exact tj_zreturn ok hf en dX6_readPlus_21
def b_X6_readPlus_22 (a0 : Nat) (h : AH) : Option (Int32 × AH) :=
  (g_r h a0 6 2).bind fun x1 => (ok_v h x1 7).bind fun x2 => (f_X7_advance x1 h).bind fun h3 => (g_r h3 a0 6 2).bind fun x4 => (g_i h3 x4 7 1).bind fun x5 => (p_i h3 a0 6 10 x5).bind fun h6 => (ok_v h6 a0 6).bind fun x7 => (f_X6_pass a0 (14 : Int32) h6).bind fun q8 => ok_z q8.1 q8.2
set_option maxHeartbeats 4000000 in
set_option maxRecDepth 100000 in
theorem q_X6_readPlus_22 {a0 : Nat} {h hE : AH} {v : Int32} (hf : b_X6_readPlus_22 a0 h = some (v, hE)) : JD cX6_readPlus 1 RX6 "readPlus" (some .boolean) (4) 22 [(0, .inr (.inr (a0)))] [] h hE (some (.inl (v))) := by
  unfold b_X6_readPlus_22 at hf
  obtain ⟨x1, e1, hf⟩ := bnd hf
  obtain ⟨x2, e2, hf⟩ := bnd hf
  obtain ⟨h3, e3, hf⟩ := bnd hf
  have k3 := c_X7_advance e3
  have m3 := (k3 default_g).1
  obtain ⟨x4, e4, hf⟩ := bnd hf
  obtain ⟨x5, e5, hf⟩ := bnd hf
  obtain ⟨h6, e6, hf⟩ := bnd hf
  have m6 := nn_pi e6
  obtain ⟨x7, e7, hf⟩ := bnd hf
  obtain ⟨⟨x8, h8⟩, e8, hf⟩ := bnd hf
  try dsimp only at hf
  have k8 := c_X6_pass e8
  have m8 := (k8 default_g).1
  have mE : hp_n h8 ≤ hp_n hE ∧ hp_s h8 ≤ hp_s hE := by obtain ⟨-, q⟩ := of_if hf; cases q; exact ⟨Nat.le_refl _, Nat.le_refl _⟩
  refine ⟨by omega, fun X g K ok nmx lev hK en => ?_⟩
  refine tj_aload_n ok 0 dX6_readPlus_22 rfl rfl ?_
  refine tj_getR (k := 2) ok fcX6 (by decide) wm_132 rfl (Or.inl ⟨_, rfl⟩) dX6_readPlus_23 e1 ?_
  refine tj_callV (rest := ([] : List TV).map (vl g)) (as := []) ok lev (by omega) fcX7.1 (by decide) rfl (of_if e2).1 (k3 g) (CaX.of en (by omega)) kn_X7_advance wm_1060 wm_1025 wm_1026 (rs_ok (Nat.le_of_ble_eq_true rfl)) rfl rfl dX6_readPlus_26 ?_
  refine tj_aload_n ok 0 dX6_readPlus_29 rfl rfl ?_
  refine tj_aload_n ok 0 dX6_readPlus_30 rfl rfl ?_
  refine tj_getR (k := 2) ok fcX6 (by decide) wm_132 rfl (Or.inl ⟨_, rfl⟩) dX6_readPlus_31 e4 ?_
  refine tj_getI (k := 1) ok fcX7 (by decide) wm_1045 rfl (Or.inl rfl) dX6_readPlus_34 e5 ?_
  refine tj_putI (k := 10) ok fcX6 (by decide) wm_140 rfl (Or.inl rfl) rfl dX6_readPlus_37 e6 ?_
  refine tj_aload_n ok 0 dX6_readPlus_40 rfl rfl ?_
  refine tj_bipush (v := 14) ok dX6_readPlus_41 (by decide) ?_
  refine tj_callV (rest := ([] : List TV).map (vl g)) (as := [.inl ((14 : Int32))]) ok lev (by omega) fcX6.1 (by decide) rfl (of_if e7).1 (k8 g) (CaX.of en (by omega)) kn_X6_pass wm_1067 wm_1068 wm_1069 (rs_ok (Nat.le_of_ble_eq_true rfl)) rfl rfl dX6_readPlus_43 ?_
  exact tj_zreturn ok hf en dX6_readPlus_46
def b_X6_readPlus_8 (a0 : Nat) (h : AH) : Option (Int32 × AH) :=
  (g_r h a0 6 2).bind fun x1 => (g_i h x1 7 0).bind fun x2 => if x2 = (18 : Int32) then b_X6_readPlus_22 a0 h else b_X6_readPlus_20 h
set_option maxHeartbeats 4000000 in
set_option maxRecDepth 100000 in
theorem q_X6_readPlus_8 {a0 : Nat} {h hE : AH} {v : Int32} (hf : b_X6_readPlus_8 a0 h = some (v, hE)) : JD cX6_readPlus 1 RX6 "readPlus" (some .boolean) (4) 8 [(0, .inr (.inr (a0)))] [] h hE (some (.inl (v))) := by
  unfold b_X6_readPlus_8 at hf
  obtain ⟨x1, e1, hf⟩ := bnd hf
  obtain ⟨x2, e2, hf⟩ := bnd hf
  have mE : hp_n h ≤ hp_n hE ∧ hp_s h ≤ hp_s hE := by
    by_cases hc : x2 = (18 : Int32)
    · rw [if_pos hc] at hf; exact (q_X6_readPlus_22 hf).1
    · rw [if_neg hc] at hf; exact (q_X6_readPlus_20 hf).1
  refine ⟨by omega, fun X g K ok nmx lev hK en => ?_⟩
  refine tj_aload_n ok 0 dX6_readPlus_8 rfl rfl ?_
  refine tj_getR (k := 2) ok fcX6 (by decide) wm_132 rfl (Or.inl ⟨_, rfl⟩) dX6_readPlus_9 e1 ?_
  refine tj_getI (k := 0) ok fcX7 (by decide) wm_1062 rfl (Or.inl rfl) dX6_readPlus_12 e2 ?_
  refine tj_bipush (v := 18) ok dX6_readPlus_15 (by decide) ?_
  refine tj_icmp_eq (tgt := 22) ok dX6_readPlus_17 (by decide) (fun hc => ?_) (fun hc => ?_)
  · rw [if_pos hc] at hf
    exact (q_X6_readPlus_22 hf).2 X g K ok nmx lev hK en
  · rw [if_neg hc] at hf
    refine tj_sub (lv' := []) [] rfl ?_
    exact (q_X6_readPlus_20 hf).2 X g K ok nmx lev hK en
def b_X6_readPlus_0 (a0 : Nat) (h : AH) : Option (Int32 × AH) :=
  (g_i h a0 6 9).bind fun x1 => if x1 = (-1 : Int32) then b_X6_readPlus_20 h else b_X6_readPlus_8 a0 h
set_option maxHeartbeats 4000000 in
set_option maxRecDepth 100000 in
theorem q_X6_readPlus_0 {a0 : Nat} {h hE : AH} {v : Int32} (hf : b_X6_readPlus_0 a0 h = some (v, hE)) : JD cX6_readPlus 1 RX6 "readPlus" (some .boolean) (4) 0 [(0, .inr (.inr (a0)))] [] h hE (some (.inl (v))) := by
  unfold b_X6_readPlus_0 at hf
  obtain ⟨x1, e1, hf⟩ := bnd hf
  have mE : hp_n h ≤ hp_n hE ∧ hp_s h ≤ hp_s hE := by
    by_cases hc : x1 = (-1 : Int32)
    · rw [if_pos hc] at hf; exact (q_X6_readPlus_20 hf).1
    · rw [if_neg hc] at hf; exact (q_X6_readPlus_8 hf).1
  refine ⟨by omega, fun X g K ok nmx lev hK en => ?_⟩
  refine tj_aload_n ok 0 dX6_readPlus_0 rfl rfl ?_
  refine tj_getI (k := 9) ok fcX6 (by decide) wm_139 rfl (Or.inl rfl) dX6_readPlus_1 e1 ?_
  refine tj_iconst (v := -1) ok dX6_readPlus_4 (by decide) ?_
  refine tj_icmp_eq (tgt := 20) ok dX6_readPlus_5 (by decide) (fun hc => ?_) (fun hc => ?_)
  · rw [if_pos hc] at hf
    refine tj_sub (lv' := []) [] rfl ?_
    exact (q_X6_readPlus_20 hf).2 X g K ok nmx lev hK en
  · rw [if_neg hc] at hf
    exact (q_X6_readPlus_8 hf).2 X g K ok nmx lev hK en
def f_X6_readPlus (a0 : Nat) (h : AH) : Option (Int32 × AH) := b_X6_readPlus_0  a0 h
theorem c_X6_readPlus {a0 : Nat} {h hE : AH} {v : Int32} (hf : f_X6_readPlus a0 h = some (v, hE)) : ∀ g : GT, CM g (4) yX6_readPlus cX6_readPlus 1 (some .boolean) h [.inr (.inr (a0))] hE (some (.inl (v))) :=
  CM.ofJ (by decide) (by show _ ≤ 1; exact Nat.le_of_ble_eq_true rfl) (q_X6_readPlus_0 hf)
/-! ===== LitmusHouse$Reader.readRead(III)Z ===== -/
def b_X6_readRead_31  (h : AH) : Option (Int32 × AH) :=
  ok_z (0 : Int32) h
set_option maxHeartbeats 4000000 in
set_option maxRecDepth 100000 in
theorem q_X6_readRead_31 {h hE : AH} {v : Int32} (hf : b_X6_readRead_31  h = some (v, hE)) : JD cX6_readRead 5 RX6 "readRead" (some .boolean) (4) 31 [] [] h hE (some (.inl (v))) := by
  unfold b_X6_readRead_31 at hf
  have mE : hp_n h ≤ hp_n hE ∧ hp_s h ≤ hp_s hE := by obtain ⟨-, q⟩ := of_if hf; cases q; exact ⟨Nat.le_refl _, Nat.le_refl _⟩
  refine ⟨by omega, fun X g K ok nmx lev hK en => ?_⟩
  refine tj_iconst (v := 0) ok dX6_readRead_31 (by decide) ?_
  exact tj_zreturn ok hf en dX6_readRead_32
def b_X6_readRead_78 (a0 : Nat) (a1 : Int32) (a2 : Int32) (a3 : Int32) (a4 : Int32) (h : AH) : Option (Int32 × AH) :=
  (g_r h a0 6 5).bind fun x1 => (g_i h a0 6 6).bind fun x2 => (ok_v h x1 0).bind fun x3 => (f_X0_addAction x1 x2 a1 a2 a3 (-1 : Int32) a4 h).bind fun h4 => (g_r h4 a0 6 2).bind fun x5 => (ok_v h4 x5 7).bind fun x6 => (f_X7_advance x5 h4).bind fun h7 => (ok_v h7 a0 6).bind fun x8 => (f_X6_pass a0 (15 : Int32) h7).bind fun q9 => ok_z q9.1 q9.2
set_option maxHeartbeats 4000000 in
set_option maxRecDepth 100000 in
theorem q_X6_readRead_78 {a0 : Nat} {a1 : Int32} {a2 : Int32} {a3 : Int32} {a4 : Int32} {h hE : AH} {v : Int32} (hf : b_X6_readRead_78 a0 a1 a2 a3 a4 h = some (v, hE)) : JD cX6_readRead 5 RX6 "readRead" (some .boolean) (4) 78 [(0, .inr (.inr (a0))), (1, .inl (a1)), (2, .inl (a2)), (3, .inl (a3)), (4, .inl (a4))] [] h hE (some (.inl (v))) := by
  unfold b_X6_readRead_78 at hf
  obtain ⟨x1, e1, hf⟩ := bnd hf
  obtain ⟨x2, e2, hf⟩ := bnd hf
  obtain ⟨x3, e3, hf⟩ := bnd hf
  obtain ⟨h4, e4, hf⟩ := bnd hf
  have k4 := c_X0_addAction e4
  have m4 := (k4 default_g).1
  obtain ⟨x5, e5, hf⟩ := bnd hf
  obtain ⟨x6, e6, hf⟩ := bnd hf
  obtain ⟨h7, e7, hf⟩ := bnd hf
  have k7 := c_X7_advance e7
  have m7 := (k7 default_g).1
  obtain ⟨x8, e8, hf⟩ := bnd hf
  obtain ⟨⟨x9, h9⟩, e9, hf⟩ := bnd hf
  try dsimp only at hf
  have k9 := c_X6_pass e9
  have m9 := (k9 default_g).1
  have mE : hp_n h9 ≤ hp_n hE ∧ hp_s h9 ≤ hp_s hE := by obtain ⟨-, q⟩ := of_if hf; cases q; exact ⟨Nat.le_refl _, Nat.le_refl _⟩
  refine ⟨by omega, fun X g K ok nmx lev hK en => ?_⟩
  refine tj_aload_n ok 0 dX6_readRead_78 rfl rfl ?_
  refine tj_getR (k := 5) ok fcX6 (by decide) wm_135 rfl (Or.inl ⟨_, rfl⟩) dX6_readRead_79 e1 ?_
  refine tj_aload_n ok 0 dX6_readRead_82 rfl rfl ?_
  refine tj_getI (k := 6) ok fcX6 (by decide) wm_136 rfl (Or.inl rfl) dX6_readRead_83 e2 ?_
  refine tj_iload_n ok 1 dX6_readRead_86 rfl rfl ?_
  refine tj_iload_n ok 2 dX6_readRead_87 rfl rfl ?_
  refine tj_iload_n ok 3 dX6_readRead_88 rfl rfl ?_
  refine tj_iconst (v := -1) ok dX6_readRead_89 (by decide) ?_
  refine tj_iload ok 4 dX6_readRead_90 rfl ?_
  refine tj_callV (rest := ([] : List TV).map (vl g)) (as := [.inl (x2), .inl (a1), .inl (a2), .inl (a3), .inl ((-1 : Int32)), .inl (a4)]) ok lev (by omega) fcX0.1 (by decide) rfl (of_if e3).1 (k4 g) (CaX.of en (by omega)) kn_X0_addAction wm_1064 wm_1065 wm_1066 (rs_ok (Nat.le_of_ble_eq_true rfl)) rfl rfl dX6_readRead_92 ?_
  refine tj_aload_n ok 0 dX6_readRead_95 rfl rfl ?_
  refine tj_getR (k := 2) ok fcX6 (by decide) wm_132 rfl (Or.inl ⟨_, rfl⟩) dX6_readRead_96 e5 ?_
  refine tj_callV (rest := ([] : List TV).map (vl g)) (as := []) ok lev (by omega) fcX7.1 (by decide) rfl (of_if e6).1 (k7 g) (CaX.of en (by omega)) kn_X7_advance wm_1060 wm_1025 wm_1026 (rs_ok (Nat.le_of_ble_eq_true rfl)) rfl rfl dX6_readRead_99 ?_
  refine tj_aload_n ok 0 dX6_readRead_102 rfl rfl ?_
  refine tj_bipush (v := 15) ok dX6_readRead_103 (by decide) ?_
  refine tj_callV (rest := ([] : List TV).map (vl g)) (as := [.inl ((15 : Int32))]) ok lev (by omega) fcX6.1 (by decide) rfl (of_if e8).1 (k9 g) (CaX.of en (by omega)) kn_X6_pass wm_1067 wm_1068 wm_1069 (rs_ok (Nat.le_of_ble_eq_true rfl)) rfl rfl dX6_readRead_105 ?_
  exact tj_zreturn ok hf en dX6_readRead_108
def b_X6_readRead_64 (a0 : Nat) (h : AH) : Option (Int32 × AH) :=
  (g_r h a0 6 2).bind fun x1 => (g_i h x1 7 2).bind fun x2 => (ok_v h a0 6).bind fun x3 => (f_X6_refuse a0 (6 : Int32) x2 h).bind fun q4 => ok_z q4.1 q4.2
set_option maxHeartbeats 4000000 in
set_option maxRecDepth 100000 in
theorem q_X6_readRead_64 {a0 : Nat} {h hE : AH} {v : Int32} (hf : b_X6_readRead_64 a0 h = some (v, hE)) : JD cX6_readRead 5 RX6 "readRead" (some .boolean) (4) 64 [(0, .inr (.inr (a0)))] [] h hE (some (.inl (v))) := by
  unfold b_X6_readRead_64 at hf
  obtain ⟨x1, e1, hf⟩ := bnd hf
  obtain ⟨x2, e2, hf⟩ := bnd hf
  obtain ⟨x3, e3, hf⟩ := bnd hf
  obtain ⟨⟨x4, h4⟩, e4, hf⟩ := bnd hf
  try dsimp only at hf
  have k4 := c_X6_refuse e4
  have m4 := (k4 default_g).1
  have mE : hp_n h4 ≤ hp_n hE ∧ hp_s h4 ≤ hp_s hE := by obtain ⟨-, q⟩ := of_if hf; cases q; exact ⟨Nat.le_refl _, Nat.le_refl _⟩
  refine ⟨by omega, fun X g K ok nmx lev hK en => ?_⟩
  refine tj_aload_n ok 0 dX6_readRead_64 rfl rfl ?_
  refine tj_bipush (v := 6) ok dX6_readRead_65 (by decide) ?_
  refine tj_aload_n ok 0 dX6_readRead_67 rfl rfl ?_
  refine tj_getR (k := 2) ok fcX6 (by decide) wm_132 rfl (Or.inl ⟨_, rfl⟩) dX6_readRead_68 e1 ?_
  refine tj_getI (k := 2) ok fcX7 (by decide) wm_1040 rfl (Or.inl rfl) dX6_readRead_71 e2 ?_
  refine tj_callV (rest := ([] : List TV).map (vl g)) (as := [.inl ((6 : Int32)), .inl (x2)]) ok lev (by omega) fcX6.1 (by decide) rfl (of_if e3).1 (k4 g) (CaX.of en (by omega)) kn_X6_refuse wm_1041 wm_1042 wm_1043 (rs_ok (Nat.le_of_ble_eq_true rfl)) rfl rfl dX6_readRead_74 ?_
  exact tj_zreturn ok hf en dX6_readRead_77
def b_X6_readRead_47 (a0 : Nat) (a1 : Int32) (a2 : Int32) (a3 : Int32) (a4 : Int32) (h : AH) : Option (Int32 × AH) :=
  (g_r h a0 6 4).bind fun x1 => (g_r h x1 5 1).bind fun x2 => (l_i h x2 (a4 &&& (7 : Int32))).bind fun x3 => if x3 = (2 : Int32) then b_X6_readRead_78 a0 a1 a2 a3 a4 h else b_X6_readRead_64 a0 h
set_option maxHeartbeats 4000000 in
set_option maxRecDepth 100000 in
theorem q_X6_readRead_47 {a0 : Nat} {a1 : Int32} {a2 : Int32} {a3 : Int32} {a4 : Int32} {h hE : AH} {v : Int32} (hf : b_X6_readRead_47 a0 a1 a2 a3 a4 h = some (v, hE)) : JD cX6_readRead 5 RX6 "readRead" (some .boolean) (4) 47 [(0, .inr (.inr (a0))), (1, .inl (a1)), (2, .inl (a2)), (3, .inl (a3)), (4, .inl (a4))] [] h hE (some (.inl (v))) := by
  unfold b_X6_readRead_47 at hf
  obtain ⟨x1, e1, hf⟩ := bnd hf
  obtain ⟨x2, e2, hf⟩ := bnd hf
  obtain ⟨x3, e3, hf⟩ := bnd hf
  have mE : hp_n h ≤ hp_n hE ∧ hp_s h ≤ hp_s hE := by
    by_cases hc : x3 = (2 : Int32)
    · rw [if_pos hc] at hf; exact (q_X6_readRead_78 hf).1
    · rw [if_neg hc] at hf; exact (q_X6_readRead_64 hf).1
  refine ⟨by omega, fun X g K ok nmx lev hK en => ?_⟩
  refine tj_aload_n ok 0 dX6_readRead_47 rfl rfl ?_
  refine tj_getR (k := 4) ok fcX6 (by decide) wm_134 rfl (Or.inl ⟨_, rfl⟩) dX6_readRead_48 e1 ?_
  refine tj_getR (k := 1) ok fcX5 (by decide) wm_1044 rfl (Or.inr ⟨_, rfl⟩) dX6_readRead_51 e2 ?_
  refine tj_iload ok 4 dX6_readRead_54 rfl ?_
  refine tj_bipush (v := 7) ok dX6_readRead_56 (by decide) ?_
  refine tj_iand ok dX6_readRead_58 ?_
  refine tj_iaload ok dX6_readRead_59 e3 ?_
  refine tj_iconst (v := 2) ok dX6_readRead_60 (by decide) ?_
  refine tj_icmp_eq (tgt := 78) ok dX6_readRead_61 (by decide) (fun hc => ?_) (fun hc => ?_)
  · rw [if_pos hc] at hf
    exact (q_X6_readRead_78 hf).2 X g K ok nmx lev hK en
  · rw [if_neg hc] at hf
    refine tj_sub (lv' := [(0, .inr (.inr (a0)))]) [0] rfl ?_
    exact (q_X6_readRead_64 hf).2 X g K ok nmx lev hK en
def b_X6_readRead_33 (a0 : Nat) (a1 : Int32) (a2 : Int32) (a3 : Int32) (h : AH) : Option (Int32 × AH) :=
  (g_r h a0 6 2).bind fun x1 => (g_i h x1 7 1).bind fun x2 => if a1 = (2 : Int32) then b_X6_readRead_47 a0 a1 a2 a3 x2 h else b_X6_readRead_78 a0 a1 a2 a3 x2 h
set_option maxHeartbeats 4000000 in
set_option maxRecDepth 100000 in
theorem q_X6_readRead_33 {a0 : Nat} {a1 : Int32} {a2 : Int32} {a3 : Int32} {h hE : AH} {v : Int32} (hf : b_X6_readRead_33 a0 a1 a2 a3 h = some (v, hE)) : JD cX6_readRead 5 RX6 "readRead" (some .boolean) (4) 33 [(0, .inr (.inr (a0))), (1, .inl (a1)), (2, .inl (a2)), (3, .inl (a3))] [] h hE (some (.inl (v))) := by
  unfold b_X6_readRead_33 at hf
  obtain ⟨x1, e1, hf⟩ := bnd hf
  obtain ⟨x2, e2, hf⟩ := bnd hf
  have mE : hp_n h ≤ hp_n hE ∧ hp_s h ≤ hp_s hE := by
    by_cases hc : a1 = (2 : Int32)
    · rw [if_pos hc] at hf; exact (q_X6_readRead_47 hf).1
    · rw [if_neg hc] at hf; exact (q_X6_readRead_78 hf).1
  refine ⟨by omega, fun X g K ok nmx lev hK en => ?_⟩
  refine tj_aload_n ok 0 dX6_readRead_33 rfl rfl ?_
  refine tj_getR (k := 2) ok fcX6 (by decide) wm_132 rfl (Or.inl ⟨_, rfl⟩) dX6_readRead_34 e1 ?_
  refine tj_getI (k := 1) ok fcX7 (by decide) wm_1045 rfl (Or.inl rfl) dX6_readRead_37 e2 ?_
  refine tj_istore (lv' := [(0, .inr (.inr (a0))), (1, .inl (a1)), (2, .inl (a2)), (3, .inl (a3)), (4, .inl (x2))]) ok dX6_readRead_40 (by decide) rfl ?_
  refine tj_iload_n ok 1 dX6_readRead_42 rfl rfl ?_
  refine tj_iconst (v := 2) ok dX6_readRead_43 (by decide) ?_
  refine tj_icmp_ne (tgt := 78) ok dX6_readRead_44 (by decide) (fun hc => ?_) (fun hc => ?_)
  · rw [if_neg hc] at hf
    exact (q_X6_readRead_78 hf).2 X g K ok nmx lev hK en
  · rw [if_pos hc] at hf
    exact (q_X6_readRead_47 hf).2 X g K ok nmx lev hK en
def b_X6_readRead_24 (a0 : Nat) (a1 : Int32) (a2 : Int32) (a3 : Int32) (h : AH) : Option (Int32 × AH) :=
  (ok_v h a0 6).bind fun x1 => (f_X6_mayAct a0 h).bind fun q2 => if q2.1 = 0 then b_X6_readRead_31 q2.2 else b_X6_readRead_33 a0 a1 a2 a3 q2.2
set_option maxHeartbeats 4000000 in
set_option maxRecDepth 100000 in
theorem q_X6_readRead_24 {a0 : Nat} {a1 : Int32} {a2 : Int32} {a3 : Int32} {h hE : AH} {v : Int32} (hf : b_X6_readRead_24 a0 a1 a2 a3 h = some (v, hE)) : JD cX6_readRead 5 RX6 "readRead" (some .boolean) (4) 24 [(0, .inr (.inr (a0))), (1, .inl (a1)), (2, .inl (a2)), (3, .inl (a3))] [] h hE (some (.inl (v))) := by
  unfold b_X6_readRead_24 at hf
  obtain ⟨x1, e1, hf⟩ := bnd hf
  obtain ⟨⟨x2, h2⟩, e2, hf⟩ := bnd hf
  try dsimp only at hf
  have k2 := c_X6_mayAct e2
  have m2 := (k2 default_g).1
  have mE : hp_n h2 ≤ hp_n hE ∧ hp_s h2 ≤ hp_s hE := by
    by_cases hc : x2 = 0
    · rw [if_pos hc] at hf; exact (q_X6_readRead_31 hf).1
    · rw [if_neg hc] at hf; exact (q_X6_readRead_33 hf).1
  refine ⟨by omega, fun X g K ok nmx lev hK en => ?_⟩
  refine tj_aload_n ok 0 dX6_readRead_24 rfl rfl ?_
  refine tj_callV (rest := ([] : List TV).map (vl g)) (as := []) ok lev (by omega) fcX6.1 (by decide) rfl (of_if e1).1 (k2 g) (CaX.of en (by omega)) kn_X6_mayAct wm_1073 wm_1074 wm_1075 (rs_ok (Nat.le_of_ble_eq_true rfl)) rfl rfl dX6_readRead_25 ?_
  refine tj_if_ne (tgt := 33) ok dX6_readRead_28 (by decide) (fun hc => ?_) (fun hc => ?_)
  · rw [if_neg hc] at hf
    exact (q_X6_readRead_33 hf).2 X g K ok nmx lev hK en
  · rw [if_pos hc] at hf
    refine tj_sub (lv' := []) [] rfl ?_
    exact (q_X6_readRead_31 hf).2 X g K ok nmx lev hK en
def b_X6_readRead_17 (a0 : Nat) (a1 : Int32) (a2 : Int32) (a3 : Int32) (h : AH) : Option (Int32 × AH) :=
  (ok_v h a0 6).bind fun x1 => (f_X6_checkCell a0 h).bind fun q2 => if q2.1 = 0 then b_X6_readRead_31 q2.2 else b_X6_readRead_24 a0 a1 a2 a3 q2.2
set_option maxHeartbeats 4000000 in
set_option maxRecDepth 100000 in
theorem q_X6_readRead_17 {a0 : Nat} {a1 : Int32} {a2 : Int32} {a3 : Int32} {h hE : AH} {v : Int32} (hf : b_X6_readRead_17 a0 a1 a2 a3 h = some (v, hE)) : JD cX6_readRead 5 RX6 "readRead" (some .boolean) (4) 17 [(0, .inr (.inr (a0))), (1, .inl (a1)), (2, .inl (a2)), (3, .inl (a3))] [] h hE (some (.inl (v))) := by
  unfold b_X6_readRead_17 at hf
  obtain ⟨x1, e1, hf⟩ := bnd hf
  obtain ⟨⟨x2, h2⟩, e2, hf⟩ := bnd hf
  try dsimp only at hf
  have k2 := c_X6_checkCell e2
  have m2 := (k2 default_g).1
  have mE : hp_n h2 ≤ hp_n hE ∧ hp_s h2 ≤ hp_s hE := by
    by_cases hc : x2 = 0
    · rw [if_pos hc] at hf; exact (q_X6_readRead_31 hf).1
    · rw [if_neg hc] at hf; exact (q_X6_readRead_24 hf).1
  refine ⟨by omega, fun X g K ok nmx lev hK en => ?_⟩
  refine tj_aload_n ok 0 dX6_readRead_17 rfl rfl ?_
  refine tj_callV (rest := ([] : List TV).map (vl g)) (as := []) ok lev (by omega) fcX6.1 (by decide) rfl (of_if e1).1 (k2 g) (CaX.of en (by omega)) kn_X6_checkCell wm_1098 wm_1099 wm_1100 (rs_ok (Nat.le_of_ble_eq_true rfl)) rfl rfl dX6_readRead_18 ?_
  refine tj_if_eq (tgt := 31) ok dX6_readRead_21 (by decide) (fun hc => ?_) (fun hc => ?_)
  · rw [if_pos hc] at hf
    refine tj_sub (lv' := []) [] rfl ?_
    exact (q_X6_readRead_31 hf).2 X g K ok nmx lev hK en
  · rw [if_neg hc] at hf
    exact (q_X6_readRead_24 hf).2 X g K ok nmx lev hK en
def b_X6_readRead_12 (a0 : Nat) (h : AH) : Option (Int32 × AH) :=
  (ok_v h a0 6).bind fun x1 => (f_X6_refuseToken a0 h).bind fun q2 => ok_z q2.1 q2.2
set_option maxHeartbeats 4000000 in
set_option maxRecDepth 100000 in
theorem q_X6_readRead_12 {a0 : Nat} {h hE : AH} {v : Int32} (hf : b_X6_readRead_12 a0 h = some (v, hE)) : JD cX6_readRead 5 RX6 "readRead" (some .boolean) (4) 12 [(0, .inr (.inr (a0)))] [] h hE (some (.inl (v))) := by
  unfold b_X6_readRead_12 at hf
  obtain ⟨x1, e1, hf⟩ := bnd hf
  obtain ⟨⟨x2, h2⟩, e2, hf⟩ := bnd hf
  try dsimp only at hf
  have k2 := c_X6_refuseToken e2
  have m2 := (k2 default_g).1
  have mE : hp_n h2 ≤ hp_n hE ∧ hp_s h2 ≤ hp_s hE := by obtain ⟨-, q⟩ := of_if hf; cases q; exact ⟨Nat.le_refl _, Nat.le_refl _⟩
  refine ⟨by omega, fun X g K ok nmx lev hK en => ?_⟩
  refine tj_aload_n ok 0 dX6_readRead_12 rfl rfl ?_
  refine tj_callV (rest := ([] : List TV).map (vl g)) (as := []) ok lev (by omega) fcX6.1 (by decide) rfl (of_if e1).1 (k2 g) (CaX.of en (by omega)) kn_X6_refuseToken wm_1093 wm_1094 wm_1095 (rs_ok (Nat.le_of_ble_eq_true rfl)) rfl rfl dX6_readRead_13 ?_
  exact tj_zreturn ok hf en dX6_readRead_16
def b_X6_readRead_0 (a0 : Nat) (a1 : Int32) (a2 : Int32) (a3 : Int32) (h : AH) : Option (Int32 × AH) :=
  (g_r h a0 6 2).bind fun x1 => (g_i h x1 7 0).bind fun x2 => if x2 = (11 : Int32) then b_X6_readRead_17 a0 a1 a2 a3 h else b_X6_readRead_12 a0 h
set_option maxHeartbeats 4000000 in
set_option maxRecDepth 100000 in
theorem q_X6_readRead_0 {a0 : Nat} {a1 : Int32} {a2 : Int32} {a3 : Int32} {h hE : AH} {v : Int32} (hf : b_X6_readRead_0 a0 a1 a2 a3 h = some (v, hE)) : JD cX6_readRead 5 RX6 "readRead" (some .boolean) (4) 0 [(0, .inr (.inr (a0))), (1, .inl (a1)), (2, .inl (a2)), (3, .inl (a3))] [] h hE (some (.inl (v))) := by
  unfold b_X6_readRead_0 at hf
  obtain ⟨x1, e1, hf⟩ := bnd hf
  obtain ⟨x2, e2, hf⟩ := bnd hf
  have mE : hp_n h ≤ hp_n hE ∧ hp_s h ≤ hp_s hE := by
    by_cases hc : x2 = (11 : Int32)
    · rw [if_pos hc] at hf; exact (q_X6_readRead_17 hf).1
    · rw [if_neg hc] at hf; exact (q_X6_readRead_12 hf).1
  refine ⟨by omega, fun X g K ok nmx lev hK en => ?_⟩
  refine tj_aload_n ok 0 dX6_readRead_0 rfl rfl ?_
  refine tj_getR (k := 2) ok fcX6 (by decide) wm_132 rfl (Or.inl ⟨_, rfl⟩) dX6_readRead_1 e1 ?_
  refine tj_getI (k := 0) ok fcX7 (by decide) wm_1062 rfl (Or.inl rfl) dX6_readRead_4 e2 ?_
  refine tj_bipush (v := 11) ok dX6_readRead_7 (by decide) ?_
  refine tj_icmp_eq (tgt := 17) ok dX6_readRead_9 (by decide) (fun hc => ?_) (fun hc => ?_)
  · rw [if_pos hc] at hf
    exact (q_X6_readRead_17 hf).2 X g K ok nmx lev hK en
  · rw [if_neg hc] at hf
    refine tj_sub (lv' := [(0, .inr (.inr (a0)))]) [0] rfl ?_
    exact (q_X6_readRead_12 hf).2 X g K ok nmx lev hK en
def f_X6_readRead (a0 : Nat) (a1 : Int32) (a2 : Int32) (a3 : Int32) (h : AH) : Option (Int32 × AH) := b_X6_readRead_0  a0 a1 a2 a3 h
theorem c_X6_readRead {a0 : Nat} {a1 : Int32} {a2 : Int32} {a3 : Int32} {h hE : AH} {v : Int32} (hf : f_X6_readRead a0 a1 a2 a3 h = some (v, hE)) : ∀ g : GT, CM g (4) yX6_readRead cX6_readRead 5 (some .boolean) h [.inr (.inr (a0)), .inl (a1), .inl (a2), .inl (a3)] hE (some (.inl (v))) :=
  CM.ofJ (by decide) (by show _ ≤ 5; exact Nat.le_of_ble_eq_true rfl) (q_X6_readRead_0 hf)
/-! ===== LitmusHouse$Reader.readTerm()Z ===== -/
def b_X6_readTerm_73 (a0 : Nat) (h : AH) : Option (Int32 × AH) :=
  (g_r h a0 6 2).bind fun x1 => (ok_v h x1 7).bind fun x2 => (f_X7_advance x1 h).bind fun h3 => ok_z (1 : Int32) h3
set_option maxHeartbeats 4000000 in
set_option maxRecDepth 100000 in
theorem q_X6_readTerm_73 {a0 : Nat} {h hE : AH} {v : Int32} (hf : b_X6_readTerm_73 a0 h = some (v, hE)) : JD cX6_readTerm 1 RX6 "readTerm" (some .boolean) (4) 73 [(0, .inr (.inr (a0)))] [] h hE (some (.inl (v))) := by
  unfold b_X6_readTerm_73 at hf
  obtain ⟨x1, e1, hf⟩ := bnd hf
  obtain ⟨x2, e2, hf⟩ := bnd hf
  obtain ⟨h3, e3, hf⟩ := bnd hf
  have k3 := c_X7_advance e3
  have m3 := (k3 default_g).1
  have mE : hp_n h3 ≤ hp_n hE ∧ hp_s h3 ≤ hp_s hE := by obtain ⟨-, q⟩ := of_if hf; cases q; exact ⟨Nat.le_refl _, Nat.le_refl _⟩
  refine ⟨by omega, fun X g K ok nmx lev hK en => ?_⟩
  refine tj_aload_n ok 0 dX6_readTerm_73 rfl rfl ?_
  refine tj_getR (k := 2) ok fcX6 (by decide) wm_132 rfl (Or.inl ⟨_, rfl⟩) dX6_readTerm_74 e1 ?_
  refine tj_callV (rest := ([] : List TV).map (vl g)) (as := []) ok lev (by omega) fcX7.1 (by decide) rfl (of_if e2).1 (k3 g) (CaX.of en (by omega)) kn_X7_advance wm_1060 wm_1025 wm_1026 (rs_ok (Nat.le_of_ble_eq_true rfl)) rfl rfl dX6_readTerm_77 ?_
  refine tj_iconst (v := 1) ok dX6_readTerm_80 (by decide) ?_
  exact tj_zreturn ok hf en dX6_readTerm_81
def b_X6_readTerm_62 (a0 : Nat) (h : AH) : Option (Int32 × AH) :=
  (g_r h a0 6 2).bind fun x1 => (g_i h x1 7 1).bind fun x2 => (p_i h a0 6 9 x2).bind fun h3 => b_X6_readTerm_73 a0 h3
set_option maxHeartbeats 4000000 in
set_option maxRecDepth 100000 in
theorem q_X6_readTerm_62 {a0 : Nat} {h hE : AH} {v : Int32} (hf : b_X6_readTerm_62 a0 h = some (v, hE)) : JD cX6_readTerm 1 RX6 "readTerm" (some .boolean) (4) 62 [(0, .inr (.inr (a0)))] [] h hE (some (.inl (v))) := by
  unfold b_X6_readTerm_62 at hf
  obtain ⟨x1, e1, hf⟩ := bnd hf
  obtain ⟨x2, e2, hf⟩ := bnd hf
  obtain ⟨h3, e3, hf⟩ := bnd hf
  have m3 := nn_pi e3
  have J := q_X6_readTerm_73 hf
  have mE := J.1
  refine ⟨by omega, fun X g K ok nmx lev hK en => ?_⟩
  refine tj_aload_n ok 0 dX6_readTerm_62 rfl rfl ?_
  refine tj_aload_n ok 0 dX6_readTerm_63 rfl rfl ?_
  refine tj_getR (k := 2) ok fcX6 (by decide) wm_132 rfl (Or.inl ⟨_, rfl⟩) dX6_readTerm_64 e1 ?_
  refine tj_getI (k := 1) ok fcX7 (by decide) wm_1045 rfl (Or.inl rfl) dX6_readTerm_67 e2 ?_
  refine tj_putI (k := 9) ok fcX6 (by decide) wm_139 rfl (Or.inl rfl) rfl dX6_readTerm_70 e3 ?_
  exact J.2 X g K ok nmx lev hK en
def b_X6_readTerm_60  (h : AH) : Option (Int32 × AH) :=
  ok_z (0 : Int32) h
set_option maxHeartbeats 4000000 in
set_option maxRecDepth 100000 in
theorem q_X6_readTerm_60 {h hE : AH} {v : Int32} (hf : b_X6_readTerm_60  h = some (v, hE)) : JD cX6_readTerm 1 RX6 "readTerm" (some .boolean) (4) 60 [] [] h hE (some (.inl (v))) := by
  unfold b_X6_readTerm_60 at hf
  have mE : hp_n h ≤ hp_n hE ∧ hp_s h ≤ hp_s hE := by obtain ⟨-, q⟩ := of_if hf; cases q; exact ⟨Nat.le_refl _, Nat.le_refl _⟩
  refine ⟨by omega, fun X g K ok nmx lev hK en => ?_⟩
  refine tj_iconst (v := 0) ok dX6_readTerm_60 (by decide) ?_
  exact tj_zreturn ok hf en dX6_readTerm_61
def b_X6_readTerm_53 (a0 : Nat) (h : AH) : Option (Int32 × AH) :=
  (ok_v h a0 6).bind fun x1 => (f_X6_checkLocal a0 h).bind fun q2 => if q2.1 = 0 then b_X6_readTerm_60 q2.2 else b_X6_readTerm_62 a0 q2.2
set_option maxHeartbeats 4000000 in
set_option maxRecDepth 100000 in
theorem q_X6_readTerm_53 {a0 : Nat} {h hE : AH} {v : Int32} (hf : b_X6_readTerm_53 a0 h = some (v, hE)) : JD cX6_readTerm 1 RX6 "readTerm" (some .boolean) (4) 53 [(0, .inr (.inr (a0)))] [] h hE (some (.inl (v))) := by
  unfold b_X6_readTerm_53 at hf
  obtain ⟨x1, e1, hf⟩ := bnd hf
  obtain ⟨⟨x2, h2⟩, e2, hf⟩ := bnd hf
  try dsimp only at hf
  have k2 := c_X6_checkLocal e2
  have m2 := (k2 default_g).1
  have mE : hp_n h2 ≤ hp_n hE ∧ hp_s h2 ≤ hp_s hE := by
    by_cases hc : x2 = 0
    · rw [if_pos hc] at hf; exact (q_X6_readTerm_60 hf).1
    · rw [if_neg hc] at hf; exact (q_X6_readTerm_62 hf).1
  refine ⟨by omega, fun X g K ok nmx lev hK en => ?_⟩
  refine tj_aload_n ok 0 dX6_readTerm_53 rfl rfl ?_
  refine tj_callV (rest := ([] : List TV).map (vl g)) (as := []) ok lev (by omega) fcX6.1 (by decide) rfl (of_if e1).1 (k2 g) (CaX.of en (by omega)) kn_X6_checkLocal wm_1090 wm_1091 wm_1092 (rs_ok (Nat.le_of_ble_eq_true rfl)) rfl rfl dX6_readTerm_54 ?_
  refine tj_if_ne (tgt := 62) ok dX6_readTerm_57 (by decide) (fun hc => ?_) (fun hc => ?_)
  · rw [if_neg hc] at hf
    exact (q_X6_readTerm_62 hf).2 X g K ok nmx lev hK en
  · rw [if_pos hc] at hf
    refine tj_sub (lv' := []) [] rfl ?_
    exact (q_X6_readTerm_60 hf).2 X g K ok nmx lev hK en
def b_X6_readTerm_48 (a0 : Nat) (h : AH) : Option (Int32 × AH) :=
  (ok_v h a0 6).bind fun x1 => (f_X6_refuseToken a0 h).bind fun q2 => ok_z q2.1 q2.2
set_option maxHeartbeats 4000000 in
set_option maxRecDepth 100000 in
theorem q_X6_readTerm_48 {a0 : Nat} {h hE : AH} {v : Int32} (hf : b_X6_readTerm_48 a0 h = some (v, hE)) : JD cX6_readTerm 1 RX6 "readTerm" (some .boolean) (4) 48 [(0, .inr (.inr (a0)))] [] h hE (some (.inl (v))) := by
  unfold b_X6_readTerm_48 at hf
  obtain ⟨x1, e1, hf⟩ := bnd hf
  obtain ⟨⟨x2, h2⟩, e2, hf⟩ := bnd hf
  try dsimp only at hf
  have k2 := c_X6_refuseToken e2
  have m2 := (k2 default_g).1
  have mE : hp_n h2 ≤ hp_n hE ∧ hp_s h2 ≤ hp_s hE := by obtain ⟨-, q⟩ := of_if hf; cases q; exact ⟨Nat.le_refl _, Nat.le_refl _⟩
  refine ⟨by omega, fun X g K ok nmx lev hK en => ?_⟩
  refine tj_aload_n ok 0 dX6_readTerm_48 rfl rfl ?_
  refine tj_callV (rest := ([] : List TV).map (vl g)) (as := []) ok lev (by omega) fcX6.1 (by decide) rfl (of_if e1).1 (k2 g) (CaX.of en (by omega)) kn_X6_refuseToken wm_1093 wm_1094 wm_1095 (rs_ok (Nat.le_of_ble_eq_true rfl)) rfl rfl dX6_readTerm_49 ?_
  exact tj_zreturn ok hf en dX6_readTerm_52
def b_X6_readTerm_36 (a0 : Nat) (h : AH) : Option (Int32 × AH) :=
  (g_r h a0 6 2).bind fun x1 => (g_i h x1 7 0).bind fun x2 => if x2 = (12 : Int32) then b_X6_readTerm_53 a0 h else b_X6_readTerm_48 a0 h
set_option maxHeartbeats 4000000 in
set_option maxRecDepth 100000 in
theorem q_X6_readTerm_36 {a0 : Nat} {h hE : AH} {v : Int32} (hf : b_X6_readTerm_36 a0 h = some (v, hE)) : JD cX6_readTerm 1 RX6 "readTerm" (some .boolean) (4) 36 [(0, .inr (.inr (a0)))] [] h hE (some (.inl (v))) := by
  unfold b_X6_readTerm_36 at hf
  obtain ⟨x1, e1, hf⟩ := bnd hf
  obtain ⟨x2, e2, hf⟩ := bnd hf
  have mE : hp_n h ≤ hp_n hE ∧ hp_s h ≤ hp_s hE := by
    by_cases hc : x2 = (12 : Int32)
    · rw [if_pos hc] at hf; exact (q_X6_readTerm_53 hf).1
    · rw [if_neg hc] at hf; exact (q_X6_readTerm_48 hf).1
  refine ⟨by omega, fun X g K ok nmx lev hK en => ?_⟩
  refine tj_aload_n ok 0 dX6_readTerm_36 rfl rfl ?_
  refine tj_getR (k := 2) ok fcX6 (by decide) wm_132 rfl (Or.inl ⟨_, rfl⟩) dX6_readTerm_37 e1 ?_
  refine tj_getI (k := 0) ok fcX7 (by decide) wm_1062 rfl (Or.inl rfl) dX6_readTerm_40 e2 ?_
  refine tj_bipush (v := 12) ok dX6_readTerm_43 (by decide) ?_
  refine tj_icmp_eq (tgt := 53) ok dX6_readTerm_45 (by decide) (fun hc => ?_) (fun hc => ?_)
  · rw [if_pos hc] at hf
    exact (q_X6_readTerm_53 hf).2 X g K ok nmx lev hK en
  · rw [if_neg hc] at hf
    exact (q_X6_readTerm_48 hf).2 X g K ok nmx lev hK en
def b_X6_readTerm_22 (a0 : Nat) (h : AH) : Option (Int32 × AH) :=
  (g_r h a0 6 2).bind fun x1 => (g_i h x1 7 1).bind fun x2 => (p_i h a0 6 10 x2).bind fun h3 => b_X6_readTerm_73 a0 h3
set_option maxHeartbeats 4000000 in
set_option maxRecDepth 100000 in
theorem q_X6_readTerm_22 {a0 : Nat} {h hE : AH} {v : Int32} (hf : b_X6_readTerm_22 a0 h = some (v, hE)) : JD cX6_readTerm 1 RX6 "readTerm" (some .boolean) (4) 22 [(0, .inr (.inr (a0)))] [] h hE (some (.inl (v))) := by
  unfold b_X6_readTerm_22 at hf
  obtain ⟨x1, e1, hf⟩ := bnd hf
  obtain ⟨x2, e2, hf⟩ := bnd hf
  obtain ⟨h3, e3, hf⟩ := bnd hf
  have m3 := nn_pi e3
  have J := q_X6_readTerm_73 hf
  have mE := J.1
  refine ⟨by omega, fun X g K ok nmx lev hK en => ?_⟩
  refine tj_aload_n ok 0 dX6_readTerm_22 rfl rfl ?_
  refine tj_aload_n ok 0 dX6_readTerm_23 rfl rfl ?_
  refine tj_getR (k := 2) ok fcX6 (by decide) wm_132 rfl (Or.inl ⟨_, rfl⟩) dX6_readTerm_24 e1 ?_
  refine tj_getI (k := 1) ok fcX7 (by decide) wm_1045 rfl (Or.inl rfl) dX6_readTerm_27 e2 ?_
  refine tj_putI (k := 10) ok fcX6 (by decide) wm_140 rfl (Or.inl rfl) rfl dX6_readTerm_30 e3 ?_
  refine tj_goto (tgt := 73) ok dX6_readTerm_33 (by decide) ?_
  exact J.2 X g K ok nmx lev hK en
def b_X6_readTerm_0 (a0 : Nat) (h : AH) : Option (Int32 × AH) :=
  (p_i h a0 6 9 (-1 : Int32)).bind fun h1 => (p_i h1 a0 6 10 (-1 : Int32)).bind fun h2 => (g_r h2 a0 6 2).bind fun x3 => (g_i h2 x3 7 0).bind fun x4 => if x4 = (14 : Int32) then b_X6_readTerm_22 a0 h2 else b_X6_readTerm_36 a0 h2
set_option maxHeartbeats 4000000 in
set_option maxRecDepth 100000 in
theorem q_X6_readTerm_0 {a0 : Nat} {h hE : AH} {v : Int32} (hf : b_X6_readTerm_0 a0 h = some (v, hE)) : JD cX6_readTerm 1 RX6 "readTerm" (some .boolean) (4) 0 [(0, .inr (.inr (a0)))] [] h hE (some (.inl (v))) := by
  unfold b_X6_readTerm_0 at hf
  obtain ⟨h1, e1, hf⟩ := bnd hf
  have m1 := nn_pi e1
  obtain ⟨h2, e2, hf⟩ := bnd hf
  have m2 := nn_pi e2
  obtain ⟨x3, e3, hf⟩ := bnd hf
  obtain ⟨x4, e4, hf⟩ := bnd hf
  have mE : hp_n h2 ≤ hp_n hE ∧ hp_s h2 ≤ hp_s hE := by
    by_cases hc : x4 = (14 : Int32)
    · rw [if_pos hc] at hf; exact (q_X6_readTerm_22 hf).1
    · rw [if_neg hc] at hf; exact (q_X6_readTerm_36 hf).1
  refine ⟨by omega, fun X g K ok nmx lev hK en => ?_⟩
  refine tj_aload_n ok 0 dX6_readTerm_0 rfl rfl ?_
  refine tj_iconst (v := -1) ok dX6_readTerm_1 (by decide) ?_
  refine tj_putI (k := 9) ok fcX6 (by decide) wm_139 rfl (Or.inl rfl) rfl dX6_readTerm_2 e1 ?_
  refine tj_aload_n ok 0 dX6_readTerm_5 rfl rfl ?_
  refine tj_iconst (v := -1) ok dX6_readTerm_6 (by decide) ?_
  refine tj_putI (k := 10) ok fcX6 (by decide) wm_140 rfl (Or.inl rfl) rfl dX6_readTerm_7 e2 ?_
  refine tj_aload_n ok 0 dX6_readTerm_10 rfl rfl ?_
  refine tj_getR (k := 2) ok fcX6 (by decide) wm_132 rfl (Or.inl ⟨_, rfl⟩) dX6_readTerm_11 e3 ?_
  refine tj_getI (k := 0) ok fcX7 (by decide) wm_1062 rfl (Or.inl rfl) dX6_readTerm_14 e4 ?_
  refine tj_bipush (v := 14) ok dX6_readTerm_17 (by decide) ?_
  refine tj_icmp_ne (tgt := 36) ok dX6_readTerm_19 (by decide) (fun hc => ?_) (fun hc => ?_)
  · rw [if_neg hc] at hf
    exact (q_X6_readTerm_36 hf).2 X g K ok nmx lev hK en
  · rw [if_pos hc] at hf
    exact (q_X6_readTerm_22 hf).2 X g K ok nmx lev hK en
def f_X6_readTerm (a0 : Nat) (h : AH) : Option (Int32 × AH) := b_X6_readTerm_0  a0 h
theorem c_X6_readTerm {a0 : Nat} {h hE : AH} {v : Int32} (hf : f_X6_readTerm a0 h = some (v, hE)) : ∀ g : GT, CM g (4) yX6_readTerm cX6_readTerm 1 (some .boolean) h [.inr (.inr (a0))] hE (some (.inl (v))) :=
  CM.ofJ (by decide) (by show _ ≤ 1; exact Nat.le_of_ble_eq_true rfl) (q_X6_readTerm_0 hf)
/-! ===== LitmusHouse$Reader.readLocalStatement()Z ===== -/
def b_X6_readLocalStatement_14  (h : AH) : Option (Int32 × AH) :=
  ok_z (0 : Int32) h
set_option maxHeartbeats 4000000 in
set_option maxRecDepth 100000 in
theorem q_X6_readLocalStatement_14 {h hE : AH} {v : Int32} (hf : b_X6_readLocalStatement_14  h = some (v, hE)) : JD cX6_readLocalStatement 2 RX6 "readLocalStatement" (some .boolean) (5) 14 [] [] h hE (some (.inl (v))) := by
  unfold b_X6_readLocalStatement_14 at hf
  have mE : hp_n h ≤ hp_n hE ∧ hp_s h ≤ hp_s hE := by obtain ⟨-, q⟩ := of_if hf; cases q; exact ⟨Nat.le_refl _, Nat.le_refl _⟩
  refine ⟨by omega, fun X g K ok nmx lev hK en => ?_⟩
  refine tj_iconst (v := 0) ok dX6_readLocalStatement_14 (by decide) ?_
  exact tj_zreturn ok hf en dX6_readLocalStatement_15
def b_X6_readLocalStatement_118 (a0 : Nat) (a1 : Int32) (h : AH) : Option (Int32 × AH) :=
  (g_r h a0 6 5).bind fun x1 => (g_i h a0 6 9).bind fun x2 => (g_i h a0 6 10).bind fun x3 => (ok_v h x1 0).bind fun x4 => (f_X0_add x1 (6 : Int32) a1 x2 x3 (-1 : Int32) h).bind fun q5 => (ok_v q5.2 a0 6).bind fun x6 => (f_X6_pass a0 (15 : Int32) q5.2).bind fun q7 => ok_z q7.1 q7.2
set_option maxHeartbeats 4000000 in
set_option maxRecDepth 100000 in
theorem q_X6_readLocalStatement_118 {a0 : Nat} {a1 : Int32} {h hE : AH} {v : Int32} (hf : b_X6_readLocalStatement_118 a0 a1 h = some (v, hE)) : JD cX6_readLocalStatement 2 RX6 "readLocalStatement" (some .boolean) (5) 118 [(0, .inr (.inr (a0))), (1, .inl (a1))] [] h hE (some (.inl (v))) := by
  unfold b_X6_readLocalStatement_118 at hf
  obtain ⟨x1, e1, hf⟩ := bnd hf
  obtain ⟨x2, e2, hf⟩ := bnd hf
  obtain ⟨x3, e3, hf⟩ := bnd hf
  obtain ⟨x4, e4, hf⟩ := bnd hf
  obtain ⟨⟨x5, h5⟩, e5, hf⟩ := bnd hf
  try dsimp only at hf
  have k5 := c_X0_add e5
  have m5 := (k5 default_g).1
  obtain ⟨x6, e6, hf⟩ := bnd hf
  obtain ⟨⟨x7, h7⟩, e7, hf⟩ := bnd hf
  try dsimp only at hf
  have k7 := c_X6_pass e7
  have m7 := (k7 default_g).1
  have mE : hp_n h7 ≤ hp_n hE ∧ hp_s h7 ≤ hp_s hE := by obtain ⟨-, q⟩ := of_if hf; cases q; exact ⟨Nat.le_refl _, Nat.le_refl _⟩
  refine ⟨by omega, fun X g K ok nmx lev hK en => ?_⟩
  refine tj_aload_n ok 0 dX6_readLocalStatement_118 rfl rfl ?_
  refine tj_getR (k := 5) ok fcX6 (by decide) wm_135 rfl (Or.inl ⟨_, rfl⟩) dX6_readLocalStatement_119 e1 ?_
  refine tj_bipush (v := 6) ok dX6_readLocalStatement_122 (by decide) ?_
  refine tj_iload_n ok 1 dX6_readLocalStatement_124 rfl rfl ?_
  refine tj_aload_n ok 0 dX6_readLocalStatement_125 rfl rfl ?_
  refine tj_getI (k := 9) ok fcX6 (by decide) wm_139 rfl (Or.inl rfl) dX6_readLocalStatement_126 e2 ?_
  refine tj_aload_n ok 0 dX6_readLocalStatement_129 rfl rfl ?_
  refine tj_getI (k := 10) ok fcX6 (by decide) wm_140 rfl (Or.inl rfl) dX6_readLocalStatement_130 e3 ?_
  refine tj_iconst (v := -1) ok dX6_readLocalStatement_133 (by decide) ?_
  refine tj_callV (rest := ([] : List TV).map (vl g)) (as := [.inl ((6 : Int32)), .inl (a1), .inl (x2), .inl (x3), .inl ((-1 : Int32))]) ok lev (by omega) fcX0.1 (by decide) rfl (of_if e4).1 (k5 g) (CaX.of en (by omega)) kn_X0_add wm_1081 wm_71 wm_72 (rs_ok (Nat.le_of_ble_eq_true rfl)) rfl rfl dX6_readLocalStatement_134 ?_
  refine tj_popi ok dX6_readLocalStatement_137 ?_
  refine tj_aload_n ok 0 dX6_readLocalStatement_138 rfl rfl ?_
  refine tj_bipush (v := 15) ok dX6_readLocalStatement_139 (by decide) ?_
  refine tj_callV (rest := ([] : List TV).map (vl g)) (as := [.inl ((15 : Int32))]) ok lev (by omega) fcX6.1 (by decide) rfl (of_if e6).1 (k7 g) (CaX.of en (by omega)) kn_X6_pass wm_1067 wm_1068 wm_1069 (rs_ok (Nat.le_of_ble_eq_true rfl)) rfl rfl dX6_readLocalStatement_141 ?_
  exact tj_zreturn ok hf en dX6_readLocalStatement_144
def b_X6_readLocalStatement_116  (h : AH) : Option (Int32 × AH) :=
  ok_z (0 : Int32) h
set_option maxHeartbeats 4000000 in
set_option maxRecDepth 100000 in
theorem q_X6_readLocalStatement_116 {h hE : AH} {v : Int32} (hf : b_X6_readLocalStatement_116  h = some (v, hE)) : JD cX6_readLocalStatement 2 RX6 "readLocalStatement" (some .boolean) (5) 116 [] [] h hE (some (.inl (v))) := by
  unfold b_X6_readLocalStatement_116 at hf
  have mE : hp_n h ≤ hp_n hE ∧ hp_s h ≤ hp_s hE := by obtain ⟨-, q⟩ := of_if hf; cases q; exact ⟨Nat.le_refl _, Nat.le_refl _⟩
  refine ⟨by omega, fun X g K ok nmx lev hK en => ?_⟩
  refine tj_iconst (v := 0) ok dX6_readLocalStatement_116 (by decide) ?_
  exact tj_zreturn ok hf en dX6_readLocalStatement_117
def b_X6_readLocalStatement_109 (a0 : Nat) (a1 : Int32) (h : AH) : Option (Int32 × AH) :=
  (ok_v h a0 6).bind fun x1 => (f_X6_readPlus a0 h).bind fun q2 => if q2.1 = 0 then b_X6_readLocalStatement_116 q2.2 else b_X6_readLocalStatement_118 a0 a1 q2.2
set_option maxHeartbeats 4000000 in
set_option maxRecDepth 100000 in
theorem q_X6_readLocalStatement_109 {a0 : Nat} {a1 : Int32} {h hE : AH} {v : Int32} (hf : b_X6_readLocalStatement_109 a0 a1 h = some (v, hE)) : JD cX6_readLocalStatement 2 RX6 "readLocalStatement" (some .boolean) (5) 109 [(0, .inr (.inr (a0))), (1, .inl (a1))] [] h hE (some (.inl (v))) := by
  unfold b_X6_readLocalStatement_109 at hf
  obtain ⟨x1, e1, hf⟩ := bnd hf
  obtain ⟨⟨x2, h2⟩, e2, hf⟩ := bnd hf
  try dsimp only at hf
  have k2 := c_X6_readPlus e2
  have m2 := (k2 default_g).1
  have mE : hp_n h2 ≤ hp_n hE ∧ hp_s h2 ≤ hp_s hE := by
    by_cases hc : x2 = 0
    · rw [if_pos hc] at hf; exact (q_X6_readLocalStatement_116 hf).1
    · rw [if_neg hc] at hf; exact (q_X6_readLocalStatement_118 hf).1
  refine ⟨by omega, fun X g K ok nmx lev hK en => ?_⟩
  refine tj_aload_n ok 0 dX6_readLocalStatement_109 rfl rfl ?_
  refine tj_callV (rest := ([] : List TV).map (vl g)) (as := []) ok lev (by omega) fcX6.1 (by decide) rfl (of_if e1).1 (k2 g) (CaX.of en (by omega)) kn_X6_readPlus wm_1103 wm_1104 wm_1105 (rs_ok (Nat.le_of_ble_eq_true rfl)) rfl rfl dX6_readLocalStatement_110 ?_
  refine tj_if_ne (tgt := 118) ok dX6_readLocalStatement_113 (by decide) (fun hc => ?_) (fun hc => ?_)
  · rw [if_neg hc] at hf
    exact (q_X6_readLocalStatement_118 hf).2 X g K ok nmx lev hK en
  · rw [if_pos hc] at hf
    refine tj_sub (lv' := []) [] rfl ?_
    exact (q_X6_readLocalStatement_116 hf).2 X g K ok nmx lev hK en
def b_X6_readLocalStatement_91 (a0 : Nat) (a1 : Int32) (h : AH) : Option (Int32 × AH) :=
  (g_r h a0 6 2).bind fun x1 => (ok_v h x1 7).bind fun x2 => (f_X7_advance x1 h).bind fun h3 => (g_i h3 a0 6 9).bind fun x4 => (ok_v h3 a0 6).bind fun x5 => (f_X6_readRead a0 (2 : Int32) a1 x4 h3).bind fun q6 => ok_z q6.1 q6.2
set_option maxHeartbeats 4000000 in
set_option maxRecDepth 100000 in
theorem q_X6_readLocalStatement_91 {a0 : Nat} {a1 : Int32} {h hE : AH} {v : Int32} (hf : b_X6_readLocalStatement_91 a0 a1 h = some (v, hE)) : JD cX6_readLocalStatement 2 RX6 "readLocalStatement" (some .boolean) (5) 91 [(0, .inr (.inr (a0))), (1, .inl (a1))] [] h hE (some (.inl (v))) := by
  unfold b_X6_readLocalStatement_91 at hf
  obtain ⟨x1, e1, hf⟩ := bnd hf
  obtain ⟨x2, e2, hf⟩ := bnd hf
  obtain ⟨h3, e3, hf⟩ := bnd hf
  have k3 := c_X7_advance e3
  have m3 := (k3 default_g).1
  obtain ⟨x4, e4, hf⟩ := bnd hf
  obtain ⟨x5, e5, hf⟩ := bnd hf
  obtain ⟨⟨x6, h6⟩, e6, hf⟩ := bnd hf
  try dsimp only at hf
  have k6 := c_X6_readRead e6
  have m6 := (k6 default_g).1
  have mE : hp_n h6 ≤ hp_n hE ∧ hp_s h6 ≤ hp_s hE := by obtain ⟨-, q⟩ := of_if hf; cases q; exact ⟨Nat.le_refl _, Nat.le_refl _⟩
  refine ⟨by omega, fun X g K ok nmx lev hK en => ?_⟩
  refine tj_aload_n ok 0 dX6_readLocalStatement_91 rfl rfl ?_
  refine tj_getR (k := 2) ok fcX6 (by decide) wm_132 rfl (Or.inl ⟨_, rfl⟩) dX6_readLocalStatement_92 e1 ?_
  refine tj_callV (rest := ([] : List TV).map (vl g)) (as := []) ok lev (by omega) fcX7.1 (by decide) rfl (of_if e2).1 (k3 g) (CaX.of en (by omega)) kn_X7_advance wm_1060 wm_1025 wm_1026 (rs_ok (Nat.le_of_ble_eq_true rfl)) rfl rfl dX6_readLocalStatement_95 ?_
  refine tj_aload_n ok 0 dX6_readLocalStatement_98 rfl rfl ?_
  refine tj_iconst (v := 2) ok dX6_readLocalStatement_99 (by decide) ?_
  refine tj_iload_n ok 1 dX6_readLocalStatement_100 rfl rfl ?_
  refine tj_aload_n ok 0 dX6_readLocalStatement_101 rfl rfl ?_
  refine tj_getI (k := 9) ok fcX6 (by decide) wm_139 rfl (Or.inl rfl) dX6_readLocalStatement_102 e4 ?_
  refine tj_callV (rest := ([] : List TV).map (vl g)) (as := [.inl ((2 : Int32)), .inl (a1), .inl (x4)]) ok lev (by omega) fcX6.1 (by decide) rfl (of_if e5).1 (k6 g) (CaX.of en (by omega)) kn_X6_readRead wm_1106 wm_1107 wm_1108 (rs_ok (Nat.le_of_ble_eq_true rfl)) rfl rfl dX6_readLocalStatement_105 ?_
  exact tj_zreturn ok hf en dX6_readLocalStatement_108
def b_X6_readLocalStatement_83 (a0 : Nat) (a1 : Int32) (h : AH) : Option (Int32 × AH) :=
  (g_i h a0 6 10).bind fun x1 => if x1 = (-1 : Int32) then b_X6_readLocalStatement_91 a0 a1 h else b_X6_readLocalStatement_109 a0 a1 h
set_option maxHeartbeats 4000000 in
set_option maxRecDepth 100000 in
theorem q_X6_readLocalStatement_83 {a0 : Nat} {a1 : Int32} {h hE : AH} {v : Int32} (hf : b_X6_readLocalStatement_83 a0 a1 h = some (v, hE)) : JD cX6_readLocalStatement 2 RX6 "readLocalStatement" (some .boolean) (5) 83 [(0, .inr (.inr (a0))), (1, .inl (a1))] [] h hE (some (.inl (v))) := by
  unfold b_X6_readLocalStatement_83 at hf
  obtain ⟨x1, e1, hf⟩ := bnd hf
  have mE : hp_n h ≤ hp_n hE ∧ hp_s h ≤ hp_s hE := by
    by_cases hc : x1 = (-1 : Int32)
    · rw [if_pos hc] at hf; exact (q_X6_readLocalStatement_91 hf).1
    · rw [if_neg hc] at hf; exact (q_X6_readLocalStatement_109 hf).1
  refine ⟨by omega, fun X g K ok nmx lev hK en => ?_⟩
  refine tj_aload_n ok 0 dX6_readLocalStatement_83 rfl rfl ?_
  refine tj_getI (k := 10) ok fcX6 (by decide) wm_140 rfl (Or.inl rfl) dX6_readLocalStatement_84 e1 ?_
  refine tj_iconst (v := -1) ok dX6_readLocalStatement_87 (by decide) ?_
  refine tj_icmp_ne (tgt := 109) ok dX6_readLocalStatement_88 (by decide) (fun hc => ?_) (fun hc => ?_)
  · rw [if_neg hc] at hf
    exact (q_X6_readLocalStatement_109 hf).2 X g K ok nmx lev hK en
  · rw [if_pos hc] at hf
    exact (q_X6_readLocalStatement_91 hf).2 X g K ok nmx lev hK en
def b_X6_readLocalStatement_71 (a0 : Nat) (a1 : Int32) (h : AH) : Option (Int32 × AH) :=
  (g_r h a0 6 2).bind fun x1 => (g_i h x1 7 0).bind fun x2 => if x2 = (19 : Int32) then b_X6_readLocalStatement_83 a0 a1 h else b_X6_readLocalStatement_109 a0 a1 h
set_option maxHeartbeats 4000000 in
set_option maxRecDepth 100000 in
theorem q_X6_readLocalStatement_71 {a0 : Nat} {a1 : Int32} {h hE : AH} {v : Int32} (hf : b_X6_readLocalStatement_71 a0 a1 h = some (v, hE)) : JD cX6_readLocalStatement 2 RX6 "readLocalStatement" (some .boolean) (5) 71 [(0, .inr (.inr (a0))), (1, .inl (a1))] [] h hE (some (.inl (v))) := by
  unfold b_X6_readLocalStatement_71 at hf
  obtain ⟨x1, e1, hf⟩ := bnd hf
  obtain ⟨x2, e2, hf⟩ := bnd hf
  have mE : hp_n h ≤ hp_n hE ∧ hp_s h ≤ hp_s hE := by
    by_cases hc : x2 = (19 : Int32)
    · rw [if_pos hc] at hf; exact (q_X6_readLocalStatement_83 hf).1
    · rw [if_neg hc] at hf; exact (q_X6_readLocalStatement_109 hf).1
  refine ⟨by omega, fun X g K ok nmx lev hK en => ?_⟩
  refine tj_aload_n ok 0 dX6_readLocalStatement_71 rfl rfl ?_
  refine tj_getR (k := 2) ok fcX6 (by decide) wm_132 rfl (Or.inl ⟨_, rfl⟩) dX6_readLocalStatement_72 e1 ?_
  refine tj_getI (k := 0) ok fcX7 (by decide) wm_1062 rfl (Or.inl rfl) dX6_readLocalStatement_75 e2 ?_
  refine tj_bipush (v := 19) ok dX6_readLocalStatement_78 (by decide) ?_
  refine tj_icmp_ne (tgt := 109) ok dX6_readLocalStatement_80 (by decide) (fun hc => ?_) (fun hc => ?_)
  · rw [if_neg hc] at hf
    exact (q_X6_readLocalStatement_109 hf).2 X g K ok nmx lev hK en
  · rw [if_pos hc] at hf
    exact (q_X6_readLocalStatement_83 hf).2 X g K ok nmx lev hK en
def b_X6_readLocalStatement_69  (h : AH) : Option (Int32 × AH) :=
  ok_z (0 : Int32) h
set_option maxHeartbeats 4000000 in
set_option maxRecDepth 100000 in
theorem q_X6_readLocalStatement_69 {h hE : AH} {v : Int32} (hf : b_X6_readLocalStatement_69  h = some (v, hE)) : JD cX6_readLocalStatement 2 RX6 "readLocalStatement" (some .boolean) (5) 69 [] [] h hE (some (.inl (v))) := by
  unfold b_X6_readLocalStatement_69 at hf
  have mE : hp_n h ≤ hp_n hE ∧ hp_s h ≤ hp_s hE := by obtain ⟨-, q⟩ := of_if hf; cases q; exact ⟨Nat.le_refl _, Nat.le_refl _⟩
  refine ⟨by omega, fun X g K ok nmx lev hK en => ?_⟩
  refine tj_iconst (v := 0) ok dX6_readLocalStatement_69 (by decide) ?_
  exact tj_zreturn ok hf en dX6_readLocalStatement_70
def b_X6_readLocalStatement_62 (a0 : Nat) (a1 : Int32) (h : AH) : Option (Int32 × AH) :=
  (ok_v h a0 6).bind fun x1 => (f_X6_readTerm a0 h).bind fun q2 => if q2.1 = 0 then b_X6_readLocalStatement_69 q2.2 else b_X6_readLocalStatement_71 a0 a1 q2.2
set_option maxHeartbeats 4000000 in
set_option maxRecDepth 100000 in
theorem q_X6_readLocalStatement_62 {a0 : Nat} {a1 : Int32} {h hE : AH} {v : Int32} (hf : b_X6_readLocalStatement_62 a0 a1 h = some (v, hE)) : JD cX6_readLocalStatement 2 RX6 "readLocalStatement" (some .boolean) (5) 62 [(0, .inr (.inr (a0))), (1, .inl (a1))] [] h hE (some (.inl (v))) := by
  unfold b_X6_readLocalStatement_62 at hf
  obtain ⟨x1, e1, hf⟩ := bnd hf
  obtain ⟨⟨x2, h2⟩, e2, hf⟩ := bnd hf
  try dsimp only at hf
  have k2 := c_X6_readTerm e2
  have m2 := (k2 default_g).1
  have mE : hp_n h2 ≤ hp_n hE ∧ hp_s h2 ≤ hp_s hE := by
    by_cases hc : x2 = 0
    · rw [if_pos hc] at hf; exact (q_X6_readLocalStatement_69 hf).1
    · rw [if_neg hc] at hf; exact (q_X6_readLocalStatement_71 hf).1
  refine ⟨by omega, fun X g K ok nmx lev hK en => ?_⟩
  refine tj_aload_n ok 0 dX6_readLocalStatement_62 rfl rfl ?_
  refine tj_callV (rest := ([] : List TV).map (vl g)) (as := []) ok lev (by omega) fcX6.1 (by decide) rfl (of_if e1).1 (k2 g) (CaX.of en (by omega)) kn_X6_readTerm wm_1109 wm_1110 wm_1111 (rs_ok (Nat.le_of_ble_eq_true rfl)) rfl rfl dX6_readLocalStatement_63 ?_
  refine tj_if_ne (tgt := 71) ok dX6_readLocalStatement_66 (by decide) (fun hc => ?_) (fun hc => ?_)
  · rw [if_neg hc] at hf
    exact (q_X6_readLocalStatement_71 hf).2 X g K ok nmx lev hK en
  · rw [if_pos hc] at hf
    refine tj_sub (lv' := []) [] rfl ?_
    exact (q_X6_readLocalStatement_69 hf).2 X g K ok nmx lev hK en
def b_X6_readLocalStatement_54 (a0 : Nat) (a1 : Int32) (h : AH) : Option (Int32 × AH) :=
  (ok_v h a0 6).bind fun x1 => (f_X6_readRead a0 (0 : Int32) a1 (-1 : Int32) h).bind fun q2 => ok_z q2.1 q2.2
set_option maxHeartbeats 4000000 in
set_option maxRecDepth 100000 in
theorem q_X6_readLocalStatement_54 {a0 : Nat} {a1 : Int32} {h hE : AH} {v : Int32} (hf : b_X6_readLocalStatement_54 a0 a1 h = some (v, hE)) : JD cX6_readLocalStatement 2 RX6 "readLocalStatement" (some .boolean) (5) 54 [(0, .inr (.inr (a0))), (1, .inl (a1))] [] h hE (some (.inl (v))) := by
  unfold b_X6_readLocalStatement_54 at hf
  obtain ⟨x1, e1, hf⟩ := bnd hf
  obtain ⟨⟨x2, h2⟩, e2, hf⟩ := bnd hf
  try dsimp only at hf
  have k2 := c_X6_readRead e2
  have m2 := (k2 default_g).1
  have mE : hp_n h2 ≤ hp_n hE ∧ hp_s h2 ≤ hp_s hE := by obtain ⟨-, q⟩ := of_if hf; cases q; exact ⟨Nat.le_refl _, Nat.le_refl _⟩
  refine ⟨by omega, fun X g K ok nmx lev hK en => ?_⟩
  refine tj_aload_n ok 0 dX6_readLocalStatement_54 rfl rfl ?_
  refine tj_iconst (v := 0) ok dX6_readLocalStatement_55 (by decide) ?_
  refine tj_iload_n ok 1 dX6_readLocalStatement_56 rfl rfl ?_
  refine tj_iconst (v := -1) ok dX6_readLocalStatement_57 (by decide) ?_
  refine tj_callV (rest := ([] : List TV).map (vl g)) (as := [.inl ((0 : Int32)), .inl (a1), .inl ((-1 : Int32))]) ok lev (by omega) fcX6.1 (by decide) rfl (of_if e1).1 (k2 g) (CaX.of en (by omega)) kn_X6_readRead wm_1106 wm_1107 wm_1108 (rs_ok (Nat.le_of_ble_eq_true rfl)) rfl rfl dX6_readLocalStatement_58 ?_
  exact tj_zreturn ok hf en dX6_readLocalStatement_61
def b_X6_readLocalStatement_42 (a0 : Nat) (a1 : Int32) (h : AH) : Option (Int32 × AH) :=
  (g_r h a0 6 2).bind fun x1 => (g_i h x1 7 0).bind fun x2 => if x2 = (11 : Int32) then b_X6_readLocalStatement_54 a0 a1 h else b_X6_readLocalStatement_62 a0 a1 h
set_option maxHeartbeats 4000000 in
set_option maxRecDepth 100000 in
theorem q_X6_readLocalStatement_42 {a0 : Nat} {a1 : Int32} {h hE : AH} {v : Int32} (hf : b_X6_readLocalStatement_42 a0 a1 h = some (v, hE)) : JD cX6_readLocalStatement 2 RX6 "readLocalStatement" (some .boolean) (5) 42 [(0, .inr (.inr (a0))), (1, .inl (a1))] [] h hE (some (.inl (v))) := by
  unfold b_X6_readLocalStatement_42 at hf
  obtain ⟨x1, e1, hf⟩ := bnd hf
  obtain ⟨x2, e2, hf⟩ := bnd hf
  have mE : hp_n h ≤ hp_n hE ∧ hp_s h ≤ hp_s hE := by
    by_cases hc : x2 = (11 : Int32)
    · rw [if_pos hc] at hf; exact (q_X6_readLocalStatement_54 hf).1
    · rw [if_neg hc] at hf; exact (q_X6_readLocalStatement_62 hf).1
  refine ⟨by omega, fun X g K ok nmx lev hK en => ?_⟩
  refine tj_aload_n ok 0 dX6_readLocalStatement_42 rfl rfl ?_
  refine tj_getR (k := 2) ok fcX6 (by decide) wm_132 rfl (Or.inl ⟨_, rfl⟩) dX6_readLocalStatement_43 e1 ?_
  refine tj_getI (k := 0) ok fcX7 (by decide) wm_1062 rfl (Or.inl rfl) dX6_readLocalStatement_46 e2 ?_
  refine tj_bipush (v := 11) ok dX6_readLocalStatement_49 (by decide) ?_
  refine tj_icmp_ne (tgt := 62) ok dX6_readLocalStatement_51 (by decide) (fun hc => ?_) (fun hc => ?_)
  · rw [if_neg hc] at hf
    exact (q_X6_readLocalStatement_62 hf).2 X g K ok nmx lev hK en
  · rw [if_pos hc] at hf
    exact (q_X6_readLocalStatement_54 hf).2 X g K ok nmx lev hK en
def b_X6_readLocalStatement_40  (h : AH) : Option (Int32 × AH) :=
  ok_z (0 : Int32) h
set_option maxHeartbeats 4000000 in
set_option maxRecDepth 100000 in
theorem q_X6_readLocalStatement_40 {h hE : AH} {v : Int32} (hf : b_X6_readLocalStatement_40  h = some (v, hE)) : JD cX6_readLocalStatement 2 RX6 "readLocalStatement" (some .boolean) (5) 40 [] [] h hE (some (.inl (v))) := by
  unfold b_X6_readLocalStatement_40 at hf
  have mE : hp_n h ≤ hp_n hE ∧ hp_s h ≤ hp_s hE := by obtain ⟨-, q⟩ := of_if hf; cases q; exact ⟨Nat.le_refl _, Nat.le_refl _⟩
  refine ⟨by omega, fun X g K ok nmx lev hK en => ?_⟩
  refine tj_iconst (v := 0) ok dX6_readLocalStatement_40 (by decide) ?_
  exact tj_zreturn ok hf en dX6_readLocalStatement_41
def b_X6_readLocalStatement_16 (a0 : Nat) (h : AH) : Option (Int32 × AH) :=
  (g_r h a0 6 2).bind fun x1 => (g_i h x1 7 1).bind fun x2 => (g_r h a0 6 2).bind fun x3 => (ok_v h x3 7).bind fun x4 => (f_X7_advance x3 h).bind fun h5 => (ok_v h5 a0 6).bind fun x6 => (f_X6_pass a0 (16 : Int32) h5).bind fun q7 => if q7.1 = 0 then b_X6_readLocalStatement_40 q7.2 else b_X6_readLocalStatement_42 a0 x2 q7.2
set_option maxHeartbeats 4000000 in
set_option maxRecDepth 100000 in
theorem q_X6_readLocalStatement_16 {a0 : Nat} {h hE : AH} {v : Int32} (hf : b_X6_readLocalStatement_16 a0 h = some (v, hE)) : JD cX6_readLocalStatement 2 RX6 "readLocalStatement" (some .boolean) (5) 16 [(0, .inr (.inr (a0)))] [] h hE (some (.inl (v))) := by
  unfold b_X6_readLocalStatement_16 at hf
  obtain ⟨x1, e1, hf⟩ := bnd hf
  obtain ⟨x2, e2, hf⟩ := bnd hf
  obtain ⟨x3, e3, hf⟩ := bnd hf
  obtain ⟨x4, e4, hf⟩ := bnd hf
  obtain ⟨h5, e5, hf⟩ := bnd hf
  have k5 := c_X7_advance e5
  have m5 := (k5 default_g).1
  obtain ⟨x6, e6, hf⟩ := bnd hf
  obtain ⟨⟨x7, h7⟩, e7, hf⟩ := bnd hf
  try dsimp only at hf
  have k7 := c_X6_pass e7
  have m7 := (k7 default_g).1
  have mE : hp_n h7 ≤ hp_n hE ∧ hp_s h7 ≤ hp_s hE := by
    by_cases hc : x7 = 0
    · rw [if_pos hc] at hf; exact (q_X6_readLocalStatement_40 hf).1
    · rw [if_neg hc] at hf; exact (q_X6_readLocalStatement_42 hf).1
  refine ⟨by omega, fun X g K ok nmx lev hK en => ?_⟩
  refine tj_aload_n ok 0 dX6_readLocalStatement_16 rfl rfl ?_
  refine tj_getR (k := 2) ok fcX6 (by decide) wm_132 rfl (Or.inl ⟨_, rfl⟩) dX6_readLocalStatement_17 e1 ?_
  refine tj_getI (k := 1) ok fcX7 (by decide) wm_1045 rfl (Or.inl rfl) dX6_readLocalStatement_20 e2 ?_
  refine tj_istore_n (lv' := [(0, .inr (.inr (a0))), (1, .inl (x2))]) ok dX6_readLocalStatement_23 rfl (by decide) rfl ?_
  refine tj_aload_n ok 0 dX6_readLocalStatement_24 rfl rfl ?_
  refine tj_getR (k := 2) ok fcX6 (by decide) wm_132 rfl (Or.inl ⟨_, rfl⟩) dX6_readLocalStatement_25 e3 ?_
  refine tj_callV (rest := ([] : List TV).map (vl g)) (as := []) ok lev (by omega) fcX7.1 (by decide) rfl (of_if e4).1 (k5 g) (CaX.of en (by omega)) kn_X7_advance wm_1060 wm_1025 wm_1026 (rs_ok (Nat.le_of_ble_eq_true rfl)) rfl rfl dX6_readLocalStatement_28 ?_
  refine tj_aload_n ok 0 dX6_readLocalStatement_31 rfl rfl ?_
  refine tj_bipush (v := 16) ok dX6_readLocalStatement_32 (by decide) ?_
  refine tj_callV (rest := ([] : List TV).map (vl g)) (as := [.inl ((16 : Int32))]) ok lev (by omega) fcX6.1 (by decide) rfl (of_if e6).1 (k7 g) (CaX.of en (by omega)) kn_X6_pass wm_1067 wm_1068 wm_1069 (rs_ok (Nat.le_of_ble_eq_true rfl)) rfl rfl dX6_readLocalStatement_34 ?_
  refine tj_if_ne (tgt := 42) ok dX6_readLocalStatement_37 (by decide) (fun hc => ?_) (fun hc => ?_)
  · rw [if_neg hc] at hf
    exact (q_X6_readLocalStatement_42 hf).2 X g K ok nmx lev hK en
  · rw [if_pos hc] at hf
    refine tj_sub (lv' := []) [] rfl ?_
    exact (q_X6_readLocalStatement_40 hf).2 X g K ok nmx lev hK en
def b_X6_readLocalStatement_7 (a0 : Nat) (h : AH) : Option (Int32 × AH) :=
  (ok_v h a0 6).bind fun x1 => (f_X6_countStatement a0 h).bind fun q2 => if q2.1 = 0 then b_X6_readLocalStatement_14 q2.2 else b_X6_readLocalStatement_16 a0 q2.2
set_option maxHeartbeats 4000000 in
set_option maxRecDepth 100000 in
theorem q_X6_readLocalStatement_7 {a0 : Nat} {h hE : AH} {v : Int32} (hf : b_X6_readLocalStatement_7 a0 h = some (v, hE)) : JD cX6_readLocalStatement 2 RX6 "readLocalStatement" (some .boolean) (5) 7 [(0, .inr (.inr (a0)))] [] h hE (some (.inl (v))) := by
  unfold b_X6_readLocalStatement_7 at hf
  obtain ⟨x1, e1, hf⟩ := bnd hf
  obtain ⟨⟨x2, h2⟩, e2, hf⟩ := bnd hf
  try dsimp only at hf
  have k2 := c_X6_countStatement e2
  have m2 := (k2 default_g).1
  have mE : hp_n h2 ≤ hp_n hE ∧ hp_s h2 ≤ hp_s hE := by
    by_cases hc : x2 = 0
    · rw [if_pos hc] at hf; exact (q_X6_readLocalStatement_14 hf).1
    · rw [if_neg hc] at hf; exact (q_X6_readLocalStatement_16 hf).1
  refine ⟨by omega, fun X g K ok nmx lev hK en => ?_⟩
  refine tj_aload_n ok 0 dX6_readLocalStatement_7 rfl rfl ?_
  refine tj_callV (rest := ([] : List TV).map (vl g)) (as := []) ok lev (by omega) fcX6.1 (by decide) rfl (of_if e1).1 (k2 g) (CaX.of en (by omega)) kn_X6_countStatement wm_1076 wm_1077 wm_1078 (rs_ok (Nat.le_of_ble_eq_true rfl)) rfl rfl dX6_readLocalStatement_8 ?_
  refine tj_if_ne (tgt := 16) ok dX6_readLocalStatement_11 (by decide) (fun hc => ?_) (fun hc => ?_)
  · rw [if_neg hc] at hf
    exact (q_X6_readLocalStatement_16 hf).2 X g K ok nmx lev hK en
  · rw [if_pos hc] at hf
    refine tj_sub (lv' := []) [] rfl ?_
    exact (q_X6_readLocalStatement_14 hf).2 X g K ok nmx lev hK en
def b_X6_readLocalStatement_0 (a0 : Nat) (h : AH) : Option (Int32 × AH) :=
  (ok_v h a0 6).bind fun x1 => (f_X6_checkLocal a0 h).bind fun q2 => if q2.1 = 0 then b_X6_readLocalStatement_14 q2.2 else b_X6_readLocalStatement_7 a0 q2.2
set_option maxHeartbeats 4000000 in
set_option maxRecDepth 100000 in
theorem q_X6_readLocalStatement_0 {a0 : Nat} {h hE : AH} {v : Int32} (hf : b_X6_readLocalStatement_0 a0 h = some (v, hE)) : JD cX6_readLocalStatement 2 RX6 "readLocalStatement" (some .boolean) (5) 0 [(0, .inr (.inr (a0)))] [] h hE (some (.inl (v))) := by
  unfold b_X6_readLocalStatement_0 at hf
  obtain ⟨x1, e1, hf⟩ := bnd hf
  obtain ⟨⟨x2, h2⟩, e2, hf⟩ := bnd hf
  try dsimp only at hf
  have k2 := c_X6_checkLocal e2
  have m2 := (k2 default_g).1
  have mE : hp_n h2 ≤ hp_n hE ∧ hp_s h2 ≤ hp_s hE := by
    by_cases hc : x2 = 0
    · rw [if_pos hc] at hf; exact (q_X6_readLocalStatement_14 hf).1
    · rw [if_neg hc] at hf; exact (q_X6_readLocalStatement_7 hf).1
  refine ⟨by omega, fun X g K ok nmx lev hK en => ?_⟩
  refine tj_aload_n ok 0 dX6_readLocalStatement_0 rfl rfl ?_
  refine tj_callV (rest := ([] : List TV).map (vl g)) (as := []) ok lev (by omega) fcX6.1 (by decide) rfl (of_if e1).1 (k2 g) (CaX.of en (by omega)) kn_X6_checkLocal wm_1090 wm_1091 wm_1092 (rs_ok (Nat.le_of_ble_eq_true rfl)) rfl rfl dX6_readLocalStatement_1 ?_
  refine tj_if_eq (tgt := 14) ok dX6_readLocalStatement_4 (by decide) (fun hc => ?_) (fun hc => ?_)
  · rw [if_pos hc] at hf
    refine tj_sub (lv' := []) [] rfl ?_
    exact (q_X6_readLocalStatement_14 hf).2 X g K ok nmx lev hK en
  · rw [if_neg hc] at hf
    exact (q_X6_readLocalStatement_7 hf).2 X g K ok nmx lev hK en
def f_X6_readLocalStatement (a0 : Nat) (h : AH) : Option (Int32 × AH) := b_X6_readLocalStatement_0  a0 h
theorem c_X6_readLocalStatement {a0 : Nat} {h hE : AH} {v : Int32} (hf : f_X6_readLocalStatement a0 h = some (v, hE)) : ∀ g : GT, CM g (5) yX6_readLocalStatement cX6_readLocalStatement 2 (some .boolean) h [.inr (.inr (a0))] hE (some (.inl (v))) :=
  CM.ofJ (by decide) (by show _ ≤ 2; exact Nat.le_of_ble_eq_true rfl) (q_X6_readLocalStatement_0 hf)
/-! ===== LitmusHouse$Reader.readMonitorStatement(I)Z ===== -/
def b_X6_readMonitorStatement_22  (h : AH) : Option (Int32 × AH) :=
  ok_z (0 : Int32) h
set_option maxHeartbeats 4000000 in
set_option maxRecDepth 100000 in
theorem q_X6_readMonitorStatement_22 {h hE : AH} {v : Int32} (hf : b_X6_readMonitorStatement_22  h = some (v, hE)) : JD cX6_readMonitorStatement 5 RX6 "readMonitorStatement" (some .boolean) (4) 22 [] [] h hE (some (.inl (v))) := by
  unfold b_X6_readMonitorStatement_22 at hf
  have mE : hp_n h ≤ hp_n hE ∧ hp_s h ≤ hp_s hE := by obtain ⟨-, q⟩ := of_if hf; cases q; exact ⟨Nat.le_refl _, Nat.le_refl _⟩
  refine ⟨by omega, fun X g K ok nmx lev hK en => ?_⟩
  refine tj_iconst (v := 0) ok dX6_readMonitorStatement_22 (by decide) ?_
  exact tj_zreturn ok hf en dX6_readMonitorStatement_23
def b_X6_readMonitorStatement_98 (a0 : Nat) (a1 : Int32) (a3 : Int32) (h : AH) : Option (Int32 × AH) :=
  (g_i h a0 6 7).bind fun x1 => (p_i h a0 6 7 (x1 ^^^ ((1 : Int32) <<< (a3 &&& 31)))).bind fun h2 => (g_r h2 a0 6 5).bind fun x3 => (g_i h2 x3 0 15).bind fun x4 => (p_i h2 x3 0 15 (x4 ||| ((1 : Int32) <<< (a3 &&& 31)))).bind fun h5 => (g_r h5 a0 6 5).bind fun x6 => (g_i h5 a0 6 6).bind fun x7 => (ok_v h5 x6 0).bind fun x8 => (f_X0_addAction x6 x7 a1 (-1 : Int32) (-1 : Int32) (-1 : Int32) a3 h5).bind fun h9 => (g_r h9 a0 6 2).bind fun x10 => (ok_v h9 x10 7).bind fun x11 => (f_X7_advance x10 h9).bind fun h12 => (ok_v h12 a0 6).bind fun x13 => (f_X6_pass a0 (15 : Int32) h12).bind fun q14 => ok_z q14.1 q14.2
set_option maxHeartbeats 4000000 in
set_option maxRecDepth 100000 in
theorem q_X6_readMonitorStatement_98 {a0 : Nat} {a1 : Int32} {a3 : Int32} {h hE : AH} {v : Int32} (hf : b_X6_readMonitorStatement_98 a0 a1 a3 h = some (v, hE)) : JD cX6_readMonitorStatement 5 RX6 "readMonitorStatement" (some .boolean) (4) 98 [(0, .inr (.inr (a0))), (1, .inl (a1)), (3, .inl (a3))] [] h hE (some (.inl (v))) := by
  unfold b_X6_readMonitorStatement_98 at hf
  obtain ⟨x1, e1, hf⟩ := bnd hf
  obtain ⟨h2, e2, hf⟩ := bnd hf
  have m2 := nn_pi e2
  obtain ⟨x3, e3, hf⟩ := bnd hf
  obtain ⟨x4, e4, hf⟩ := bnd hf
  obtain ⟨h5, e5, hf⟩ := bnd hf
  have m5 := nn_pi e5
  obtain ⟨x6, e6, hf⟩ := bnd hf
  obtain ⟨x7, e7, hf⟩ := bnd hf
  obtain ⟨x8, e8, hf⟩ := bnd hf
  obtain ⟨h9, e9, hf⟩ := bnd hf
  have k9 := c_X0_addAction e9
  have m9 := (k9 default_g).1
  obtain ⟨x10, e10, hf⟩ := bnd hf
  obtain ⟨x11, e11, hf⟩ := bnd hf
  obtain ⟨h12, e12, hf⟩ := bnd hf
  have k12 := c_X7_advance e12
  have m12 := (k12 default_g).1
  obtain ⟨x13, e13, hf⟩ := bnd hf
  obtain ⟨⟨x14, h14⟩, e14, hf⟩ := bnd hf
  try dsimp only at hf
  have k14 := c_X6_pass e14
  have m14 := (k14 default_g).1
  have mE : hp_n h14 ≤ hp_n hE ∧ hp_s h14 ≤ hp_s hE := by obtain ⟨-, q⟩ := of_if hf; cases q; exact ⟨Nat.le_refl _, Nat.le_refl _⟩
  refine ⟨by omega, fun X g K ok nmx lev hK en => ?_⟩
  refine tj_aload_n ok 0 dX6_readMonitorStatement_98 rfl rfl ?_
  refine tj_dupa ok dX6_readMonitorStatement_99 ?_
  refine tj_getI (k := 7) ok fcX6 (by decide) wm_137 rfl (Or.inl rfl) dX6_readMonitorStatement_100 e1 ?_
  refine tj_iconst (v := 1) ok dX6_readMonitorStatement_103 (by decide) ?_
  refine tj_iload_n ok 2 dX6_readMonitorStatement_104 rfl rfl ?_
  refine tj_ishl ok dX6_readMonitorStatement_105 ?_
  refine tj_ixor ok dX6_readMonitorStatement_106 ?_
  refine tj_putI (k := 7) ok fcX6 (by decide) wm_137 rfl (Or.inl rfl) rfl dX6_readMonitorStatement_107 e2 ?_
  refine tj_aload_n ok 0 dX6_readMonitorStatement_110 rfl rfl ?_
  refine tj_getR (k := 5) ok fcX6 (by decide) wm_135 rfl (Or.inl ⟨_, rfl⟩) dX6_readMonitorStatement_111 e3 ?_
  refine tj_dupa ok dX6_readMonitorStatement_114 ?_
  refine tj_getI (k := 15) ok fcX0 (by decide) wm_1113 rfl (Or.inl rfl) dX6_readMonitorStatement_115 e4 ?_
  refine tj_iconst (v := 1) ok dX6_readMonitorStatement_118 (by decide) ?_
  refine tj_iload_n ok 2 dX6_readMonitorStatement_119 rfl rfl ?_
  refine tj_ishl ok dX6_readMonitorStatement_120 ?_
  refine tj_ior ok dX6_readMonitorStatement_121 ?_
  refine tj_putI (k := 15) ok fcX0 (by decide) wm_1113 rfl (Or.inl rfl) rfl dX6_readMonitorStatement_122 e5 ?_
  refine tj_aload_n ok 0 dX6_readMonitorStatement_125 rfl rfl ?_
  refine tj_getR (k := 5) ok fcX6 (by decide) wm_135 rfl (Or.inl ⟨_, rfl⟩) dX6_readMonitorStatement_126 e6 ?_
  refine tj_aload_n ok 0 dX6_readMonitorStatement_129 rfl rfl ?_
  refine tj_getI (k := 6) ok fcX6 (by decide) wm_136 rfl (Or.inl rfl) dX6_readMonitorStatement_130 e7 ?_
  refine tj_iload_n ok 1 dX6_readMonitorStatement_133 rfl rfl ?_
  refine tj_iconst (v := -1) ok dX6_readMonitorStatement_134 (by decide) ?_
  refine tj_iconst (v := -1) ok dX6_readMonitorStatement_135 (by decide) ?_
  refine tj_iconst (v := -1) ok dX6_readMonitorStatement_136 (by decide) ?_
  refine tj_iload_n ok 2 dX6_readMonitorStatement_137 rfl rfl ?_
  refine tj_callV (rest := ([] : List TV).map (vl g)) (as := [.inl (x7), .inl (a1), .inl ((-1 : Int32)), .inl ((-1 : Int32)), .inl ((-1 : Int32)), .inl (a3)]) ok lev (by omega) fcX0.1 (by decide) rfl (of_if e8).1 (k9 g) (CaX.of en (by omega)) kn_X0_addAction wm_1064 wm_1065 wm_1066 (rs_ok (Nat.le_of_ble_eq_true rfl)) rfl rfl dX6_readMonitorStatement_138 ?_
  refine tj_aload_n ok 0 dX6_readMonitorStatement_141 rfl rfl ?_
  refine tj_getR (k := 2) ok fcX6 (by decide) wm_132 rfl (Or.inl ⟨_, rfl⟩) dX6_readMonitorStatement_142 e10 ?_
  refine tj_callV (rest := ([] : List TV).map (vl g)) (as := []) ok lev (by omega) fcX7.1 (by decide) rfl (of_if e11).1 (k12 g) (CaX.of en (by omega)) kn_X7_advance wm_1060 wm_1025 wm_1026 (rs_ok (Nat.le_of_ble_eq_true rfl)) rfl rfl dX6_readMonitorStatement_145 ?_
  refine tj_aload_n ok 0 dX6_readMonitorStatement_148 rfl rfl ?_
  refine tj_bipush (v := 15) ok dX6_readMonitorStatement_149 (by decide) ?_
  refine tj_callV (rest := ([] : List TV).map (vl g)) (as := [.inl ((15 : Int32))]) ok lev (by omega) fcX6.1 (by decide) rfl (of_if e13).1 (k14 g) (CaX.of en (by omega)) kn_X6_pass wm_1067 wm_1068 wm_1069 (rs_ok (Nat.le_of_ble_eq_true rfl)) rfl rfl dX6_readMonitorStatement_151 ?_
  exact tj_zreturn ok hf en dX6_readMonitorStatement_154
def b_X6_readMonitorStatement_91 (a0 : Nat) (a2 : Int32) (h : AH) : Option (Int32 × AH) :=
  (ok_v h a0 6).bind fun x1 => (f_X6_refuse a0 (5 : Int32) a2 h).bind fun q2 => ok_z q2.1 q2.2
set_option maxHeartbeats 4000000 in
set_option maxRecDepth 100000 in
theorem q_X6_readMonitorStatement_91 {a0 : Nat} {a2 : Int32} {h hE : AH} {v : Int32} (hf : b_X6_readMonitorStatement_91 a0 a2 h = some (v, hE)) : JD cX6_readMonitorStatement 5 RX6 "readMonitorStatement" (some .boolean) (4) 91 [(0, .inr (.inr (a0))), (2, .inl (a2))] [] h hE (some (.inl (v))) := by
  unfold b_X6_readMonitorStatement_91 at hf
  obtain ⟨x1, e1, hf⟩ := bnd hf
  obtain ⟨⟨x2, h2⟩, e2, hf⟩ := bnd hf
  try dsimp only at hf
  have k2 := c_X6_refuse e2
  have m2 := (k2 default_g).1
  have mE : hp_n h2 ≤ hp_n hE ∧ hp_s h2 ≤ hp_s hE := by obtain ⟨-, q⟩ := of_if hf; cases q; exact ⟨Nat.le_refl _, Nat.le_refl _⟩
  refine ⟨by omega, fun X g K ok nmx lev hK en => ?_⟩
  refine tj_aload_n ok 0 dX6_readMonitorStatement_91 rfl rfl ?_
  refine tj_iconst (v := 5) ok dX6_readMonitorStatement_92 (by decide) ?_
  refine tj_iload_n ok 1 dX6_readMonitorStatement_93 rfl rfl ?_
  refine tj_callV (rest := ([] : List TV).map (vl g)) (as := [.inl ((5 : Int32)), .inl (a2)]) ok lev (by omega) fcX6.1 (by decide) rfl (of_if e1).1 (k2 g) (CaX.of en (by omega)) kn_X6_refuse wm_1041 wm_1042 wm_1043 (rs_ok (Nat.le_of_ble_eq_true rfl)) rfl rfl dX6_readMonitorStatement_94 ?_
  exact tj_zreturn ok hf en dX6_readMonitorStatement_97
def b_X6_readMonitorStatement_88 (a0 : Nat) (a1 : Int32) (a2 : Int32) (a3 : Int32) (s0 : Int32) (s1 : Int32) (h : AH) : Option (Int32 × AH) :=
  if s0 = s1 then b_X6_readMonitorStatement_91 a0 a2 h else b_X6_readMonitorStatement_98 a0 a1 a3 h
set_option maxHeartbeats 4000000 in
set_option maxRecDepth 100000 in
theorem q_X6_readMonitorStatement_88 {a0 : Nat} {a1 : Int32} {a2 : Int32} {a3 : Int32} {s0 : Int32} {s1 : Int32} {h hE : AH} {v : Int32} (hf : b_X6_readMonitorStatement_88 a0 a1 a2 a3 s0 s1 h = some (v, hE)) : JD cX6_readMonitorStatement 5 RX6 "readMonitorStatement" (some .boolean) (4) 88 [(0, .inr (.inr (a0))), (1, .inl (a1)), (2, .inl (a2)), (3, .inl (a3))] [.inl (s1), .inl (s0)] h hE (some (.inl (v))) := by
  unfold b_X6_readMonitorStatement_88 at hf
  have mE : hp_n h ≤ hp_n hE ∧ hp_s h ≤ hp_s hE := by
    by_cases hc : s0 = s1
    · rw [if_pos hc] at hf; exact (q_X6_readMonitorStatement_91 hf).1
    · rw [if_neg hc] at hf; exact (q_X6_readMonitorStatement_98 hf).1
  refine ⟨by omega, fun X g K ok nmx lev hK en => ?_⟩
  refine tj_icmp_ne (tgt := 98) ok dX6_readMonitorStatement_88 (by decide) (fun hc => ?_) (fun hc => ?_)
  · rw [if_neg hc] at hf
    refine tj_sub (lv' := [(0, .inr (.inr (a0))), (1, .inl (a1)), (3, .inl (a3))]) [0, 1, 3] rfl ?_
    exact (q_X6_readMonitorStatement_98 hf).2 X g K ok nmx lev hK en
  · rw [if_pos hc] at hf
    refine tj_sub (lv' := [(0, .inr (.inr (a0))), (2, .inl (a2))]) [0, 2] rfl ?_
    exact (q_X6_readMonitorStatement_91 hf).2 X g K ok nmx lev hK en
def b_X6_readMonitorStatement_87 (a0 : Nat) (a1 : Int32) (a2 : Int32) (a3 : Int32) (s0 : Int32) (h : AH) : Option (Int32 × AH) :=
  b_X6_readMonitorStatement_88 a0 a1 a2 a3 s0 (0 : Int32) h
set_option maxHeartbeats 4000000 in
set_option maxRecDepth 100000 in
theorem q_X6_readMonitorStatement_87 {a0 : Nat} {a1 : Int32} {a2 : Int32} {a3 : Int32} {s0 : Int32} {h hE : AH} {v : Int32} (hf : b_X6_readMonitorStatement_87 a0 a1 a2 a3 s0 h = some (v, hE)) : JD cX6_readMonitorStatement 5 RX6 "readMonitorStatement" (some .boolean) (4) 87 [(0, .inr (.inr (a0))), (1, .inl (a1)), (2, .inl (a2)), (3, .inl (a3))] [.inl (s0)] h hE (some (.inl (v))) := by
  unfold b_X6_readMonitorStatement_87 at hf
  have J := q_X6_readMonitorStatement_88 hf
  have mE := J.1
  refine ⟨by omega, fun X g K ok nmx lev hK en => ?_⟩
  refine tj_iconst (v := 0) ok dX6_readMonitorStatement_87 (by decide) ?_
  exact J.2 X g K ok nmx lev hK en
def b_X6_readMonitorStatement_83 (a0 : Nat) (a1 : Int32) (a2 : Int32) (a3 : Int32) (s0 : Int32) (h : AH) : Option (Int32 × AH) :=
  b_X6_readMonitorStatement_88 a0 a1 a2 a3 s0 (1 : Int32) h
set_option maxHeartbeats 4000000 in
set_option maxRecDepth 100000 in
theorem q_X6_readMonitorStatement_83 {a0 : Nat} {a1 : Int32} {a2 : Int32} {a3 : Int32} {s0 : Int32} {h hE : AH} {v : Int32} (hf : b_X6_readMonitorStatement_83 a0 a1 a2 a3 s0 h = some (v, hE)) : JD cX6_readMonitorStatement 5 RX6 "readMonitorStatement" (some .boolean) (4) 83 [(0, .inr (.inr (a0))), (1, .inl (a1)), (2, .inl (a2)), (3, .inl (a3))] [.inl (s0)] h hE (some (.inl (v))) := by
  unfold b_X6_readMonitorStatement_83 at hf
  have J := q_X6_readMonitorStatement_88 hf
  have mE := J.1
  refine ⟨by omega, fun X g K ok nmx lev hK en => ?_⟩
  refine tj_iconst (v := 1) ok dX6_readMonitorStatement_83 (by decide) ?_
  refine tj_goto (tgt := 88) ok dX6_readMonitorStatement_84 (by decide) ?_
  exact J.2 X g K ok nmx lev hK en
def b_X6_readMonitorStatement_74 (a0 : Nat) (a1 : Int32) (a2 : Int32) (a3 : Int32) (s0 : Int32) (h : AH) : Option (Int32 × AH) :=
  if a1 = (3 : Int32) then b_X6_readMonitorStatement_83 a0 a1 a2 a3 s0 h else b_X6_readMonitorStatement_87 a0 a1 a2 a3 s0 h
set_option maxHeartbeats 4000000 in
set_option maxRecDepth 100000 in
theorem q_X6_readMonitorStatement_74 {a0 : Nat} {a1 : Int32} {a2 : Int32} {a3 : Int32} {s0 : Int32} {h hE : AH} {v : Int32} (hf : b_X6_readMonitorStatement_74 a0 a1 a2 a3 s0 h = some (v, hE)) : JD cX6_readMonitorStatement 5 RX6 "readMonitorStatement" (some .boolean) (4) 74 [(0, .inr (.inr (a0))), (1, .inl (a1)), (2, .inl (a2)), (3, .inl (a3))] [.inl (s0)] h hE (some (.inl (v))) := by
  unfold b_X6_readMonitorStatement_74 at hf
  have mE : hp_n h ≤ hp_n hE ∧ hp_s h ≤ hp_s hE := by
    by_cases hc : a1 = (3 : Int32)
    · rw [if_pos hc] at hf; exact (q_X6_readMonitorStatement_83 hf).1
    · rw [if_neg hc] at hf; exact (q_X6_readMonitorStatement_87 hf).1
  refine ⟨by omega, fun X g K ok nmx lev hK en => ?_⟩
  refine tj_istore (lv' := [(0, .inr (.inr (a0))), (1, .inl (a1)), (2, .inl (a2)), (3, .inl (a3)), (4, .inl (s0))]) ok dX6_readMonitorStatement_74 (by decide) rfl ?_
  refine tj_iload ok 4 dX6_readMonitorStatement_76 rfl ?_
  refine tj_iload_n ok 1 dX6_readMonitorStatement_78 rfl rfl ?_
  refine tj_iconst (v := 3) ok dX6_readMonitorStatement_79 (by decide) ?_
  refine tj_icmp_ne (tgt := 87) ok dX6_readMonitorStatement_80 (by decide) (fun hc => ?_) (fun hc => ?_)
  · rw [if_neg hc] at hf
    refine tj_sub (lv' := [(0, .inr (.inr (a0))), (1, .inl (a1)), (2, .inl (a2)), (3, .inl (a3))]) [0, 1, 2, 3] rfl ?_
    exact (q_X6_readMonitorStatement_87 hf).2 X g K ok nmx lev hK en
  · rw [if_pos hc] at hf
    refine tj_sub (lv' := [(0, .inr (.inr (a0))), (1, .inl (a1)), (2, .inl (a2)), (3, .inl (a3))]) [0, 1, 2, 3] rfl ?_
    exact (q_X6_readMonitorStatement_83 hf).2 X g K ok nmx lev hK en
def b_X6_readMonitorStatement_73 (a0 : Nat) (a1 : Int32) (a2 : Int32) (a3 : Int32) (h : AH) : Option (Int32 × AH) :=
  b_X6_readMonitorStatement_74 a0 a1 a2 a3 (0 : Int32) h
set_option maxHeartbeats 4000000 in
set_option maxRecDepth 100000 in
theorem q_X6_readMonitorStatement_73 {a0 : Nat} {a1 : Int32} {a2 : Int32} {a3 : Int32} {h hE : AH} {v : Int32} (hf : b_X6_readMonitorStatement_73 a0 a1 a2 a3 h = some (v, hE)) : JD cX6_readMonitorStatement 5 RX6 "readMonitorStatement" (some .boolean) (4) 73 [(0, .inr (.inr (a0))), (1, .inl (a1)), (2, .inl (a2)), (3, .inl (a3))] [] h hE (some (.inl (v))) := by
  unfold b_X6_readMonitorStatement_73 at hf
  have J := q_X6_readMonitorStatement_74 hf
  have mE := J.1
  refine ⟨by omega, fun X g K ok nmx lev hK en => ?_⟩
  refine tj_iconst (v := 0) ok dX6_readMonitorStatement_73 (by decide) ?_
  exact J.2 X g K ok nmx lev hK en
def b_X6_readMonitorStatement_69 (a0 : Nat) (a1 : Int32) (a2 : Int32) (a3 : Int32) (h : AH) : Option (Int32 × AH) :=
  b_X6_readMonitorStatement_74 a0 a1 a2 a3 (1 : Int32) h
set_option maxHeartbeats 4000000 in
set_option maxRecDepth 100000 in
theorem q_X6_readMonitorStatement_69 {a0 : Nat} {a1 : Int32} {a2 : Int32} {a3 : Int32} {h hE : AH} {v : Int32} (hf : b_X6_readMonitorStatement_69 a0 a1 a2 a3 h = some (v, hE)) : JD cX6_readMonitorStatement 5 RX6 "readMonitorStatement" (some .boolean) (4) 69 [(0, .inr (.inr (a0))), (1, .inl (a1)), (2, .inl (a2)), (3, .inl (a3))] [] h hE (some (.inl (v))) := by
  unfold b_X6_readMonitorStatement_69 at hf
  have J := q_X6_readMonitorStatement_74 hf
  have mE := J.1
  refine ⟨by omega, fun X g K ok nmx lev hK en => ?_⟩
  refine tj_iconst (v := 1) ok dX6_readMonitorStatement_69 (by decide) ?_
  refine tj_goto (tgt := 74) ok dX6_readMonitorStatement_70 (by decide) ?_
  exact J.2 X g K ok nmx lev hK en
def b_X6_readMonitorStatement_48 (a0 : Nat) (a1 : Int32) (a2 : Int32) (h : AH) : Option (Int32 × AH) :=
  (g_r h a0 6 2).bind fun x1 => (g_i h x1 7 1).bind fun x2 => (g_i h a0 6 7).bind fun x3 => if ((x3 >>> ((x2 &&& (1 : Int32)) &&& 31)) &&& (1 : Int32)) = 0 then b_X6_readMonitorStatement_73 a0 a1 a2 (x2 &&& (1 : Int32)) h else b_X6_readMonitorStatement_69 a0 a1 a2 (x2 &&& (1 : Int32)) h
set_option maxHeartbeats 4000000 in
set_option maxRecDepth 100000 in
theorem q_X6_readMonitorStatement_48 {a0 : Nat} {a1 : Int32} {a2 : Int32} {h hE : AH} {v : Int32} (hf : b_X6_readMonitorStatement_48 a0 a1 a2 h = some (v, hE)) : JD cX6_readMonitorStatement 5 RX6 "readMonitorStatement" (some .boolean) (4) 48 [(0, .inr (.inr (a0))), (1, .inl (a1)), (2, .inl (a2))] [] h hE (some (.inl (v))) := by
  unfold b_X6_readMonitorStatement_48 at hf
  obtain ⟨x1, e1, hf⟩ := bnd hf
  obtain ⟨x2, e2, hf⟩ := bnd hf
  obtain ⟨x3, e3, hf⟩ := bnd hf
  have mE : hp_n h ≤ hp_n hE ∧ hp_s h ≤ hp_s hE := by
    by_cases hc : ((x3 >>> ((x2 &&& (1 : Int32)) &&& 31)) &&& (1 : Int32)) = 0
    · rw [if_pos hc] at hf; exact (q_X6_readMonitorStatement_73 hf).1
    · rw [if_neg hc] at hf; exact (q_X6_readMonitorStatement_69 hf).1
  refine ⟨by omega, fun X g K ok nmx lev hK en => ?_⟩
  refine tj_aload_n ok 0 dX6_readMonitorStatement_48 rfl rfl ?_
  refine tj_getR (k := 2) ok fcX6 (by decide) wm_132 rfl (Or.inl ⟨_, rfl⟩) dX6_readMonitorStatement_49 e1 ?_
  refine tj_getI (k := 1) ok fcX7 (by decide) wm_1045 rfl (Or.inl rfl) dX6_readMonitorStatement_52 e2 ?_
  refine tj_iconst (v := 1) ok dX6_readMonitorStatement_55 (by decide) ?_
  refine tj_iand ok dX6_readMonitorStatement_56 ?_
  refine tj_istore_n (lv' := [(0, .inr (.inr (a0))), (1, .inl (a1)), (2, .inl (a2)), (3, .inl (x2 &&& (1 : Int32)))]) ok dX6_readMonitorStatement_57 rfl (by decide) rfl ?_
  refine tj_aload_n ok 0 dX6_readMonitorStatement_58 rfl rfl ?_
  refine tj_getI (k := 7) ok fcX6 (by decide) wm_137 rfl (Or.inl rfl) dX6_readMonitorStatement_59 e3 ?_
  refine tj_iload_n ok 3 dX6_readMonitorStatement_62 rfl rfl ?_
  refine tj_ishr ok dX6_readMonitorStatement_63 ?_
  refine tj_iconst (v := 1) ok dX6_readMonitorStatement_64 (by decide) ?_
  refine tj_iand ok dX6_readMonitorStatement_65 ?_
  refine tj_if_eq (tgt := 73) ok dX6_readMonitorStatement_66 (by decide) (fun hc => ?_) (fun hc => ?_)
  · rw [if_pos hc] at hf
    exact (q_X6_readMonitorStatement_73 hf).2 X g K ok nmx lev hK en
  · rw [if_neg hc] at hf
    exact (q_X6_readMonitorStatement_69 hf).2 X g K ok nmx lev hK en
def b_X6_readMonitorStatement_43 (a0 : Nat) (h : AH) : Option (Int32 × AH) :=
  (ok_v h a0 6).bind fun x1 => (f_X6_refuseToken a0 h).bind fun q2 => ok_z q2.1 q2.2
set_option maxHeartbeats 4000000 in
set_option maxRecDepth 100000 in
theorem q_X6_readMonitorStatement_43 {a0 : Nat} {h hE : AH} {v : Int32} (hf : b_X6_readMonitorStatement_43 a0 h = some (v, hE)) : JD cX6_readMonitorStatement 5 RX6 "readMonitorStatement" (some .boolean) (4) 43 [(0, .inr (.inr (a0)))] [] h hE (some (.inl (v))) := by
  unfold b_X6_readMonitorStatement_43 at hf
  obtain ⟨x1, e1, hf⟩ := bnd hf
  obtain ⟨⟨x2, h2⟩, e2, hf⟩ := bnd hf
  try dsimp only at hf
  have k2 := c_X6_refuseToken e2
  have m2 := (k2 default_g).1
  have mE : hp_n h2 ≤ hp_n hE ∧ hp_s h2 ≤ hp_s hE := by obtain ⟨-, q⟩ := of_if hf; cases q; exact ⟨Nat.le_refl _, Nat.le_refl _⟩
  refine ⟨by omega, fun X g K ok nmx lev hK en => ?_⟩
  refine tj_aload_n ok 0 dX6_readMonitorStatement_43 rfl rfl ?_
  refine tj_callV (rest := ([] : List TV).map (vl g)) (as := []) ok lev (by omega) fcX6.1 (by decide) rfl (of_if e1).1 (k2 g) (CaX.of en (by omega)) kn_X6_refuseToken wm_1093 wm_1094 wm_1095 (rs_ok (Nat.le_of_ble_eq_true rfl)) rfl rfl dX6_readMonitorStatement_44 ?_
  exact tj_zreturn ok hf en dX6_readMonitorStatement_47
def b_X6_readMonitorStatement_24 (a0 : Nat) (a1 : Int32) (a2 : Int32) (h : AH) : Option (Int32 × AH) :=
  (g_r h a0 6 2).bind fun x1 => (ok_v h x1 7).bind fun x2 => (f_X7_advance x1 h).bind fun h3 => (g_r h3 a0 6 2).bind fun x4 => (g_i h3 x4 7 0).bind fun x5 => if x5 = (13 : Int32) then b_X6_readMonitorStatement_48 a0 a1 a2 h3 else b_X6_readMonitorStatement_43 a0 h3
set_option maxHeartbeats 4000000 in
set_option maxRecDepth 100000 in
theorem q_X6_readMonitorStatement_24 {a0 : Nat} {a1 : Int32} {a2 : Int32} {h hE : AH} {v : Int32} (hf : b_X6_readMonitorStatement_24 a0 a1 a2 h = some (v, hE)) : JD cX6_readMonitorStatement 5 RX6 "readMonitorStatement" (some .boolean) (4) 24 [(0, .inr (.inr (a0))), (1, .inl (a1)), (2, .inl (a2))] [] h hE (some (.inl (v))) := by
  unfold b_X6_readMonitorStatement_24 at hf
  obtain ⟨x1, e1, hf⟩ := bnd hf
  obtain ⟨x2, e2, hf⟩ := bnd hf
  obtain ⟨h3, e3, hf⟩ := bnd hf
  have k3 := c_X7_advance e3
  have m3 := (k3 default_g).1
  obtain ⟨x4, e4, hf⟩ := bnd hf
  obtain ⟨x5, e5, hf⟩ := bnd hf
  have mE : hp_n h3 ≤ hp_n hE ∧ hp_s h3 ≤ hp_s hE := by
    by_cases hc : x5 = (13 : Int32)
    · rw [if_pos hc] at hf; exact (q_X6_readMonitorStatement_48 hf).1
    · rw [if_neg hc] at hf; exact (q_X6_readMonitorStatement_43 hf).1
  refine ⟨by omega, fun X g K ok nmx lev hK en => ?_⟩
  refine tj_aload_n ok 0 dX6_readMonitorStatement_24 rfl rfl ?_
  refine tj_getR (k := 2) ok fcX6 (by decide) wm_132 rfl (Or.inl ⟨_, rfl⟩) dX6_readMonitorStatement_25 e1 ?_
  refine tj_callV (rest := ([] : List TV).map (vl g)) (as := []) ok lev (by omega) fcX7.1 (by decide) rfl (of_if e2).1 (k3 g) (CaX.of en (by omega)) kn_X7_advance wm_1060 wm_1025 wm_1026 (rs_ok (Nat.le_of_ble_eq_true rfl)) rfl rfl dX6_readMonitorStatement_28 ?_
  refine tj_aload_n ok 0 dX6_readMonitorStatement_31 rfl rfl ?_
  refine tj_getR (k := 2) ok fcX6 (by decide) wm_132 rfl (Or.inl ⟨_, rfl⟩) dX6_readMonitorStatement_32 e4 ?_
  refine tj_getI (k := 0) ok fcX7 (by decide) wm_1062 rfl (Or.inl rfl) dX6_readMonitorStatement_35 e5 ?_
  refine tj_bipush (v := 13) ok dX6_readMonitorStatement_38 (by decide) ?_
  refine tj_icmp_eq (tgt := 48) ok dX6_readMonitorStatement_40 (by decide) (fun hc => ?_) (fun hc => ?_)
  · rw [if_pos hc] at hf
    exact (q_X6_readMonitorStatement_48 hf).2 X g K ok nmx lev hK en
  · rw [if_neg hc] at hf
    refine tj_sub (lv' := [(0, .inr (.inr (a0)))]) [0] rfl ?_
    exact (q_X6_readMonitorStatement_43 hf).2 X g K ok nmx lev hK en
def b_X6_readMonitorStatement_15 (a0 : Nat) (a1 : Int32) (a2 : Int32) (h : AH) : Option (Int32 × AH) :=
  (ok_v h a0 6).bind fun x1 => (f_X6_mayAct a0 h).bind fun q2 => if q2.1 = 0 then b_X6_readMonitorStatement_22 q2.2 else b_X6_readMonitorStatement_24 a0 a1 a2 q2.2
set_option maxHeartbeats 4000000 in
set_option maxRecDepth 100000 in
theorem q_X6_readMonitorStatement_15 {a0 : Nat} {a1 : Int32} {a2 : Int32} {h hE : AH} {v : Int32} (hf : b_X6_readMonitorStatement_15 a0 a1 a2 h = some (v, hE)) : JD cX6_readMonitorStatement 5 RX6 "readMonitorStatement" (some .boolean) (4) 15 [(0, .inr (.inr (a0))), (1, .inl (a1)), (2, .inl (a2))] [] h hE (some (.inl (v))) := by
  unfold b_X6_readMonitorStatement_15 at hf
  obtain ⟨x1, e1, hf⟩ := bnd hf
  obtain ⟨⟨x2, h2⟩, e2, hf⟩ := bnd hf
  try dsimp only at hf
  have k2 := c_X6_mayAct e2
  have m2 := (k2 default_g).1
  have mE : hp_n h2 ≤ hp_n hE ∧ hp_s h2 ≤ hp_s hE := by
    by_cases hc : x2 = 0
    · rw [if_pos hc] at hf; exact (q_X6_readMonitorStatement_22 hf).1
    · rw [if_neg hc] at hf; exact (q_X6_readMonitorStatement_24 hf).1
  refine ⟨by omega, fun X g K ok nmx lev hK en => ?_⟩
  refine tj_aload_n ok 0 dX6_readMonitorStatement_15 rfl rfl ?_
  refine tj_callV (rest := ([] : List TV).map (vl g)) (as := []) ok lev (by omega) fcX6.1 (by decide) rfl (of_if e1).1 (k2 g) (CaX.of en (by omega)) kn_X6_mayAct wm_1073 wm_1074 wm_1075 (rs_ok (Nat.le_of_ble_eq_true rfl)) rfl rfl dX6_readMonitorStatement_16 ?_
  refine tj_if_ne (tgt := 24) ok dX6_readMonitorStatement_19 (by decide) (fun hc => ?_) (fun hc => ?_)
  · rw [if_neg hc] at hf
    exact (q_X6_readMonitorStatement_24 hf).2 X g K ok nmx lev hK en
  · rw [if_pos hc] at hf
    refine tj_sub (lv' := []) [] rfl ?_
    exact (q_X6_readMonitorStatement_22 hf).2 X g K ok nmx lev hK en
def b_X6_readMonitorStatement_0 (a0 : Nat) (a1 : Int32) (h : AH) : Option (Int32 × AH) :=
  (g_r h a0 6 2).bind fun x1 => (g_i h x1 7 2).bind fun x2 => (ok_v h a0 6).bind fun x3 => (f_X6_countStatement a0 h).bind fun q4 => if q4.1 = 0 then b_X6_readMonitorStatement_22 q4.2 else b_X6_readMonitorStatement_15 a0 a1 x2 q4.2
set_option maxHeartbeats 4000000 in
set_option maxRecDepth 100000 in
theorem q_X6_readMonitorStatement_0 {a0 : Nat} {a1 : Int32} {h hE : AH} {v : Int32} (hf : b_X6_readMonitorStatement_0 a0 a1 h = some (v, hE)) : JD cX6_readMonitorStatement 5 RX6 "readMonitorStatement" (some .boolean) (4) 0 [(0, .inr (.inr (a0))), (1, .inl (a1))] [] h hE (some (.inl (v))) := by
  unfold b_X6_readMonitorStatement_0 at hf
  obtain ⟨x1, e1, hf⟩ := bnd hf
  obtain ⟨x2, e2, hf⟩ := bnd hf
  obtain ⟨x3, e3, hf⟩ := bnd hf
  obtain ⟨⟨x4, h4⟩, e4, hf⟩ := bnd hf
  try dsimp only at hf
  have k4 := c_X6_countStatement e4
  have m4 := (k4 default_g).1
  have mE : hp_n h4 ≤ hp_n hE ∧ hp_s h4 ≤ hp_s hE := by
    by_cases hc : x4 = 0
    · rw [if_pos hc] at hf; exact (q_X6_readMonitorStatement_22 hf).1
    · rw [if_neg hc] at hf; exact (q_X6_readMonitorStatement_15 hf).1
  refine ⟨by omega, fun X g K ok nmx lev hK en => ?_⟩
  refine tj_aload_n ok 0 dX6_readMonitorStatement_0 rfl rfl ?_
  refine tj_getR (k := 2) ok fcX6 (by decide) wm_132 rfl (Or.inl ⟨_, rfl⟩) dX6_readMonitorStatement_1 e1 ?_
  refine tj_getI (k := 2) ok fcX7 (by decide) wm_1040 rfl (Or.inl rfl) dX6_readMonitorStatement_4 e2 ?_
  refine tj_istore_n (lv' := [(0, .inr (.inr (a0))), (1, .inl (a1)), (2, .inl (x2))]) ok dX6_readMonitorStatement_7 rfl (by decide) rfl ?_
  refine tj_aload_n ok 0 dX6_readMonitorStatement_8 rfl rfl ?_
  refine tj_callV (rest := ([] : List TV).map (vl g)) (as := []) ok lev (by omega) fcX6.1 (by decide) rfl (of_if e3).1 (k4 g) (CaX.of en (by omega)) kn_X6_countStatement wm_1076 wm_1077 wm_1078 (rs_ok (Nat.le_of_ble_eq_true rfl)) rfl rfl dX6_readMonitorStatement_9 ?_
  refine tj_if_eq (tgt := 22) ok dX6_readMonitorStatement_12 (by decide) (fun hc => ?_) (fun hc => ?_)
  · rw [if_pos hc] at hf
    refine tj_sub (lv' := []) [] rfl ?_
    exact (q_X6_readMonitorStatement_22 hf).2 X g K ok nmx lev hK en
  · rw [if_neg hc] at hf
    exact (q_X6_readMonitorStatement_15 hf).2 X g K ok nmx lev hK en
def f_X6_readMonitorStatement (a0 : Nat) (a1 : Int32) (h : AH) : Option (Int32 × AH) := b_X6_readMonitorStatement_0  a0 a1 h
theorem c_X6_readMonitorStatement {a0 : Nat} {a1 : Int32} {h hE : AH} {v : Int32} (hf : f_X6_readMonitorStatement a0 a1 h = some (v, hE)) : ∀ g : GT, CM g (4) yX6_readMonitorStatement cX6_readMonitorStatement 5 (some .boolean) h [.inr (.inr (a0)), .inl (a1)] hE (some (.inl (v))) :=
  CM.ofJ (by decide) (by show _ ≤ 5; exact Nat.le_of_ble_eq_true rfl) (q_X6_readMonitorStatement_0 hf)
/-! ===== LitmusHouse$Reader.readWrite()Z ===== -/
def b_X6_readWrite_21  (h : AH) : Option (Int32 × AH) :=
  ok_z (0 : Int32) h
set_option maxHeartbeats 4000000 in
set_option maxRecDepth 100000 in
theorem q_X6_readWrite_21 {h hE : AH} {v : Int32} (hf : b_X6_readWrite_21  h = some (v, hE)) : JD cX6_readWrite 2 RX6 "readWrite" (some .boolean) (5) 21 [] [] h hE (some (.inl (v))) := by
  unfold b_X6_readWrite_21 at hf
  have mE : hp_n h ≤ hp_n hE ∧ hp_s h ≤ hp_s hE := by obtain ⟨-, q⟩ := of_if hf; cases q; exact ⟨Nat.le_refl _, Nat.le_refl _⟩
  refine ⟨by omega, fun X g K ok nmx lev hK en => ?_⟩
  refine tj_iconst (v := 0) ok dX6_readWrite_21 (by decide) ?_
  exact tj_zreturn ok hf en dX6_readWrite_22
def b_X6_readWrite_86  (h : AH) : Option (Int32 × AH) :=
  ok_z (0 : Int32) h
set_option maxHeartbeats 4000000 in
set_option maxRecDepth 100000 in
theorem q_X6_readWrite_86 {h hE : AH} {v : Int32} (hf : b_X6_readWrite_86  h = some (v, hE)) : JD cX6_readWrite 2 RX6 "readWrite" (some .boolean) (5) 86 [] [] h hE (some (.inl (v))) := by
  unfold b_X6_readWrite_86 at hf
  have mE : hp_n h ≤ hp_n hE ∧ hp_s h ≤ hp_s hE := by obtain ⟨-, q⟩ := of_if hf; cases q; exact ⟨Nat.le_refl _, Nat.le_refl _⟩
  refine ⟨by omega, fun X g K ok nmx lev hK en => ?_⟩
  refine tj_iconst (v := 0) ok dX6_readWrite_86 (by decide) ?_
  exact tj_zreturn ok hf en dX6_readWrite_87
def b_X6_readWrite_88 (a0 : Nat) (a1 : Int32) (h : AH) : Option (Int32 × AH) :=
  (g_r h a0 6 5).bind fun x1 => (g_i h a0 6 6).bind fun x2 => (g_i h a0 6 9).bind fun x3 => (g_i h a0 6 10).bind fun x4 => (ok_v h x1 0).bind fun x5 => (f_X0_addAction x1 x2 (1 : Int32) (-1 : Int32) x3 x4 a1 h).bind fun h6 => (ok_v h6 a0 6).bind fun x7 => (f_X6_pass a0 (15 : Int32) h6).bind fun q8 => ok_z q8.1 q8.2
set_option maxHeartbeats 4000000 in
set_option maxRecDepth 100000 in
theorem q_X6_readWrite_88 {a0 : Nat} {a1 : Int32} {h hE : AH} {v : Int32} (hf : b_X6_readWrite_88 a0 a1 h = some (v, hE)) : JD cX6_readWrite 2 RX6 "readWrite" (some .boolean) (5) 88 [(0, .inr (.inr (a0))), (1, .inl (a1))] [] h hE (some (.inl (v))) := by
  unfold b_X6_readWrite_88 at hf
  obtain ⟨x1, e1, hf⟩ := bnd hf
  obtain ⟨x2, e2, hf⟩ := bnd hf
  obtain ⟨x3, e3, hf⟩ := bnd hf
  obtain ⟨x4, e4, hf⟩ := bnd hf
  obtain ⟨x5, e5, hf⟩ := bnd hf
  obtain ⟨h6, e6, hf⟩ := bnd hf
  have k6 := c_X0_addAction e6
  have m6 := (k6 default_g).1
  obtain ⟨x7, e7, hf⟩ := bnd hf
  obtain ⟨⟨x8, h8⟩, e8, hf⟩ := bnd hf
  try dsimp only at hf
  have k8 := c_X6_pass e8
  have m8 := (k8 default_g).1
  have mE : hp_n h8 ≤ hp_n hE ∧ hp_s h8 ≤ hp_s hE := by obtain ⟨-, q⟩ := of_if hf; cases q; exact ⟨Nat.le_refl _, Nat.le_refl _⟩
  refine ⟨by omega, fun X g K ok nmx lev hK en => ?_⟩
  refine tj_aload_n ok 0 dX6_readWrite_88 rfl rfl ?_
  refine tj_getR (k := 5) ok fcX6 (by decide) wm_135 rfl (Or.inl ⟨_, rfl⟩) dX6_readWrite_89 e1 ?_
  refine tj_aload_n ok 0 dX6_readWrite_92 rfl rfl ?_
  refine tj_getI (k := 6) ok fcX6 (by decide) wm_136 rfl (Or.inl rfl) dX6_readWrite_93 e2 ?_
  refine tj_iconst (v := 1) ok dX6_readWrite_96 (by decide) ?_
  refine tj_iconst (v := -1) ok dX6_readWrite_97 (by decide) ?_
  refine tj_aload_n ok 0 dX6_readWrite_98 rfl rfl ?_
  refine tj_getI (k := 9) ok fcX6 (by decide) wm_139 rfl (Or.inl rfl) dX6_readWrite_99 e3 ?_
  refine tj_aload_n ok 0 dX6_readWrite_102 rfl rfl ?_
  refine tj_getI (k := 10) ok fcX6 (by decide) wm_140 rfl (Or.inl rfl) dX6_readWrite_103 e4 ?_
  refine tj_iload_n ok 1 dX6_readWrite_106 rfl rfl ?_
  refine tj_callV (rest := ([] : List TV).map (vl g)) (as := [.inl (x2), .inl ((1 : Int32)), .inl ((-1 : Int32)), .inl (x3), .inl (x4), .inl (a1)]) ok lev (by omega) fcX0.1 (by decide) rfl (of_if e5).1 (k6 g) (CaX.of en (by omega)) kn_X0_addAction wm_1064 wm_1065 wm_1066 (rs_ok (Nat.le_of_ble_eq_true rfl)) rfl rfl dX6_readWrite_107 ?_
  refine tj_aload_n ok 0 dX6_readWrite_110 rfl rfl ?_
  refine tj_bipush (v := 15) ok dX6_readWrite_111 (by decide) ?_
  refine tj_callV (rest := ([] : List TV).map (vl g)) (as := [.inl ((15 : Int32))]) ok lev (by omega) fcX6.1 (by decide) rfl (of_if e7).1 (k8 g) (CaX.of en (by omega)) kn_X6_pass wm_1067 wm_1068 wm_1069 (rs_ok (Nat.le_of_ble_eq_true rfl)) rfl rfl dX6_readWrite_113 ?_
  exact tj_zreturn ok hf en dX6_readWrite_116
def b_X6_readWrite_79 (a0 : Nat) (a1 : Int32) (h : AH) : Option (Int32 × AH) :=
  (ok_v h a0 6).bind fun x1 => (f_X6_readPlus a0 h).bind fun q2 => if q2.1 = 0 then b_X6_readWrite_86 q2.2 else b_X6_readWrite_88 a0 a1 q2.2
set_option maxHeartbeats 4000000 in
set_option maxRecDepth 100000 in
theorem q_X6_readWrite_79 {a0 : Nat} {a1 : Int32} {h hE : AH} {v : Int32} (hf : b_X6_readWrite_79 a0 a1 h = some (v, hE)) : JD cX6_readWrite 2 RX6 "readWrite" (some .boolean) (5) 79 [(0, .inr (.inr (a0))), (1, .inl (a1))] [] h hE (some (.inl (v))) := by
  unfold b_X6_readWrite_79 at hf
  obtain ⟨x1, e1, hf⟩ := bnd hf
  obtain ⟨⟨x2, h2⟩, e2, hf⟩ := bnd hf
  try dsimp only at hf
  have k2 := c_X6_readPlus e2
  have m2 := (k2 default_g).1
  have mE : hp_n h2 ≤ hp_n hE ∧ hp_s h2 ≤ hp_s hE := by
    by_cases hc : x2 = 0
    · rw [if_pos hc] at hf; exact (q_X6_readWrite_86 hf).1
    · rw [if_neg hc] at hf; exact (q_X6_readWrite_88 hf).1
  refine ⟨by omega, fun X g K ok nmx lev hK en => ?_⟩
  refine tj_aload_n ok 0 dX6_readWrite_79 rfl rfl ?_
  refine tj_callV (rest := ([] : List TV).map (vl g)) (as := []) ok lev (by omega) fcX6.1 (by decide) rfl (of_if e1).1 (k2 g) (CaX.of en (by omega)) kn_X6_readPlus wm_1103 wm_1104 wm_1105 (rs_ok (Nat.le_of_ble_eq_true rfl)) rfl rfl dX6_readWrite_80 ?_
  refine tj_if_ne (tgt := 88) ok dX6_readWrite_83 (by decide) (fun hc => ?_) (fun hc => ?_)
  · rw [if_neg hc] at hf
    exact (q_X6_readWrite_88 hf).2 X g K ok nmx lev hK en
  · rw [if_pos hc] at hf
    refine tj_sub (lv' := []) [] rfl ?_
    exact (q_X6_readWrite_86 hf).2 X g K ok nmx lev hK en
def b_X6_readWrite_72 (a0 : Nat) (a1 : Int32) (h : AH) : Option (Int32 × AH) :=
  (ok_v h a0 6).bind fun x1 => (f_X6_readTerm a0 h).bind fun q2 => if q2.1 = 0 then b_X6_readWrite_86 q2.2 else b_X6_readWrite_79 a0 a1 q2.2
set_option maxHeartbeats 4000000 in
set_option maxRecDepth 100000 in
theorem q_X6_readWrite_72 {a0 : Nat} {a1 : Int32} {h hE : AH} {v : Int32} (hf : b_X6_readWrite_72 a0 a1 h = some (v, hE)) : JD cX6_readWrite 2 RX6 "readWrite" (some .boolean) (5) 72 [(0, .inr (.inr (a0))), (1, .inl (a1))] [] h hE (some (.inl (v))) := by
  unfold b_X6_readWrite_72 at hf
  obtain ⟨x1, e1, hf⟩ := bnd hf
  obtain ⟨⟨x2, h2⟩, e2, hf⟩ := bnd hf
  try dsimp only at hf
  have k2 := c_X6_readTerm e2
  have m2 := (k2 default_g).1
  have mE : hp_n h2 ≤ hp_n hE ∧ hp_s h2 ≤ hp_s hE := by
    by_cases hc : x2 = 0
    · rw [if_pos hc] at hf; exact (q_X6_readWrite_86 hf).1
    · rw [if_neg hc] at hf; exact (q_X6_readWrite_79 hf).1
  refine ⟨by omega, fun X g K ok nmx lev hK en => ?_⟩
  refine tj_aload_n ok 0 dX6_readWrite_72 rfl rfl ?_
  refine tj_callV (rest := ([] : List TV).map (vl g)) (as := []) ok lev (by omega) fcX6.1 (by decide) rfl (of_if e1).1 (k2 g) (CaX.of en (by omega)) kn_X6_readTerm wm_1109 wm_1110 wm_1111 (rs_ok (Nat.le_of_ble_eq_true rfl)) rfl rfl dX6_readWrite_73 ?_
  refine tj_if_eq (tgt := 86) ok dX6_readWrite_76 (by decide) (fun hc => ?_) (fun hc => ?_)
  · rw [if_pos hc] at hf
    refine tj_sub (lv' := []) [] rfl ?_
    exact (q_X6_readWrite_86 hf).2 X g K ok nmx lev hK en
  · rw [if_neg hc] at hf
    exact (q_X6_readWrite_79 hf).2 X g K ok nmx lev hK en
def b_X6_readWrite_56 (a0 : Nat) (a1 : Int32) (h : AH) : Option (Int32 × AH) :=
  (g_r h a0 6 2).bind fun x1 => (ok_v h x1 7).bind fun x2 => (f_X7_advance x1 h).bind fun h3 => (ok_v h3 a0 6).bind fun x4 => (f_X6_pass a0 (16 : Int32) h3).bind fun q5 => if q5.1 = 0 then b_X6_readWrite_86 q5.2 else b_X6_readWrite_72 a0 a1 q5.2
set_option maxHeartbeats 4000000 in
set_option maxRecDepth 100000 in
theorem q_X6_readWrite_56 {a0 : Nat} {a1 : Int32} {h hE : AH} {v : Int32} (hf : b_X6_readWrite_56 a0 a1 h = some (v, hE)) : JD cX6_readWrite 2 RX6 "readWrite" (some .boolean) (5) 56 [(0, .inr (.inr (a0))), (1, .inl (a1))] [] h hE (some (.inl (v))) := by
  unfold b_X6_readWrite_56 at hf
  obtain ⟨x1, e1, hf⟩ := bnd hf
  obtain ⟨x2, e2, hf⟩ := bnd hf
  obtain ⟨h3, e3, hf⟩ := bnd hf
  have k3 := c_X7_advance e3
  have m3 := (k3 default_g).1
  obtain ⟨x4, e4, hf⟩ := bnd hf
  obtain ⟨⟨x5, h5⟩, e5, hf⟩ := bnd hf
  try dsimp only at hf
  have k5 := c_X6_pass e5
  have m5 := (k5 default_g).1
  have mE : hp_n h5 ≤ hp_n hE ∧ hp_s h5 ≤ hp_s hE := by
    by_cases hc : x5 = 0
    · rw [if_pos hc] at hf; exact (q_X6_readWrite_86 hf).1
    · rw [if_neg hc] at hf; exact (q_X6_readWrite_72 hf).1
  refine ⟨by omega, fun X g K ok nmx lev hK en => ?_⟩
  refine tj_aload_n ok 0 dX6_readWrite_56 rfl rfl ?_
  refine tj_getR (k := 2) ok fcX6 (by decide) wm_132 rfl (Or.inl ⟨_, rfl⟩) dX6_readWrite_57 e1 ?_
  refine tj_callV (rest := ([] : List TV).map (vl g)) (as := []) ok lev (by omega) fcX7.1 (by decide) rfl (of_if e2).1 (k3 g) (CaX.of en (by omega)) kn_X7_advance wm_1060 wm_1025 wm_1026 (rs_ok (Nat.le_of_ble_eq_true rfl)) rfl rfl dX6_readWrite_60 ?_
  refine tj_aload_n ok 0 dX6_readWrite_63 rfl rfl ?_
  refine tj_bipush (v := 16) ok dX6_readWrite_64 (by decide) ?_
  refine tj_callV (rest := ([] : List TV).map (vl g)) (as := [.inl ((16 : Int32))]) ok lev (by omega) fcX6.1 (by decide) rfl (of_if e4).1 (k5 g) (CaX.of en (by omega)) kn_X6_pass wm_1067 wm_1068 wm_1069 (rs_ok (Nat.le_of_ble_eq_true rfl)) rfl rfl dX6_readWrite_66 ?_
  refine tj_if_eq (tgt := 86) ok dX6_readWrite_69 (by decide) (fun hc => ?_) (fun hc => ?_)
  · rw [if_pos hc] at hf
    refine tj_sub (lv' := []) [] rfl ?_
    exact (q_X6_readWrite_86 hf).2 X g K ok nmx lev hK en
  · rw [if_neg hc] at hf
    exact (q_X6_readWrite_72 hf).2 X g K ok nmx lev hK en
def b_X6_readWrite_54  (h : AH) : Option (Int32 × AH) :=
  ok_z (0 : Int32) h
set_option maxHeartbeats 4000000 in
set_option maxRecDepth 100000 in
theorem q_X6_readWrite_54 {h hE : AH} {v : Int32} (hf : b_X6_readWrite_54  h = some (v, hE)) : JD cX6_readWrite 2 RX6 "readWrite" (some .boolean) (5) 54 [] [] h hE (some (.inl (v))) := by
  unfold b_X6_readWrite_54 at hf
  have mE : hp_n h ≤ hp_n hE ∧ hp_s h ≤ hp_s hE := by obtain ⟨-, q⟩ := of_if hf; cases q; exact ⟨Nat.le_refl _, Nat.le_refl _⟩
  refine ⟨by omega, fun X g K ok nmx lev hK en => ?_⟩
  refine tj_iconst (v := 0) ok dX6_readWrite_54 (by decide) ?_
  exact tj_zreturn ok hf en dX6_readWrite_55
def b_X6_readWrite_47 (a0 : Nat) (a1 : Int32) (h : AH) : Option (Int32 × AH) :=
  (ok_v h a0 6).bind fun x1 => (f_X6_checkMaker a0 h).bind fun q2 => if q2.1 = 0 then b_X6_readWrite_54 q2.2 else b_X6_readWrite_56 a0 a1 q2.2
set_option maxHeartbeats 4000000 in
set_option maxRecDepth 100000 in
theorem q_X6_readWrite_47 {a0 : Nat} {a1 : Int32} {h hE : AH} {v : Int32} (hf : b_X6_readWrite_47 a0 a1 h = some (v, hE)) : JD cX6_readWrite 2 RX6 "readWrite" (some .boolean) (5) 47 [(0, .inr (.inr (a0))), (1, .inl (a1))] [] h hE (some (.inl (v))) := by
  unfold b_X6_readWrite_47 at hf
  obtain ⟨x1, e1, hf⟩ := bnd hf
  obtain ⟨⟨x2, h2⟩, e2, hf⟩ := bnd hf
  try dsimp only at hf
  have k2 := c_X6_checkMaker e2
  have m2 := (k2 default_g).1
  have mE : hp_n h2 ≤ hp_n hE ∧ hp_s h2 ≤ hp_s hE := by
    by_cases hc : x2 = 0
    · rw [if_pos hc] at hf; exact (q_X6_readWrite_54 hf).1
    · rw [if_neg hc] at hf; exact (q_X6_readWrite_56 hf).1
  refine ⟨by omega, fun X g K ok nmx lev hK en => ?_⟩
  refine tj_aload_n ok 0 dX6_readWrite_47 rfl rfl ?_
  refine tj_callV (rest := ([] : List TV).map (vl g)) (as := []) ok lev (by omega) fcX6.1 (by decide) rfl (of_if e1).1 (k2 g) (CaX.of en (by omega)) kn_X6_checkMaker wm_1070 wm_1071 wm_1072 (rs_ok (Nat.le_of_ble_eq_true rfl)) rfl rfl dX6_readWrite_48 ?_
  refine tj_if_ne (tgt := 56) ok dX6_readWrite_51 (by decide) (fun hc => ?_) (fun hc => ?_)
  · rw [if_neg hc] at hf
    exact (q_X6_readWrite_56 hf).2 X g K ok nmx lev hK en
  · rw [if_pos hc] at hf
    refine tj_sub (lv' := []) [] rfl ?_
    exact (q_X6_readWrite_54 hf).2 X g K ok nmx lev hK en
def b_X6_readWrite_23 (a0 : Nat) (h : AH) : Option (Int32 × AH) :=
  (g_r h a0 6 2).bind fun x1 => (g_i h x1 7 1).bind fun x2 => (g_r h a0 6 4).bind fun x3 => (g_r h x3 5 1).bind fun x4 => (l_i h x4 (x2 &&& (7 : Int32))).bind fun x5 => if x5 = (2 : Int32) then b_X6_readWrite_47 a0 x2 h else b_X6_readWrite_56 a0 x2 h
set_option maxHeartbeats 4000000 in
set_option maxRecDepth 100000 in
theorem q_X6_readWrite_23 {a0 : Nat} {h hE : AH} {v : Int32} (hf : b_X6_readWrite_23 a0 h = some (v, hE)) : JD cX6_readWrite 2 RX6 "readWrite" (some .boolean) (5) 23 [(0, .inr (.inr (a0)))] [] h hE (some (.inl (v))) := by
  unfold b_X6_readWrite_23 at hf
  obtain ⟨x1, e1, hf⟩ := bnd hf
  obtain ⟨x2, e2, hf⟩ := bnd hf
  obtain ⟨x3, e3, hf⟩ := bnd hf
  obtain ⟨x4, e4, hf⟩ := bnd hf
  obtain ⟨x5, e5, hf⟩ := bnd hf
  have mE : hp_n h ≤ hp_n hE ∧ hp_s h ≤ hp_s hE := by
    by_cases hc : x5 = (2 : Int32)
    · rw [if_pos hc] at hf; exact (q_X6_readWrite_47 hf).1
    · rw [if_neg hc] at hf; exact (q_X6_readWrite_56 hf).1
  refine ⟨by omega, fun X g K ok nmx lev hK en => ?_⟩
  refine tj_aload_n ok 0 dX6_readWrite_23 rfl rfl ?_
  refine tj_getR (k := 2) ok fcX6 (by decide) wm_132 rfl (Or.inl ⟨_, rfl⟩) dX6_readWrite_24 e1 ?_
  refine tj_getI (k := 1) ok fcX7 (by decide) wm_1045 rfl (Or.inl rfl) dX6_readWrite_27 e2 ?_
  refine tj_istore_n (lv' := [(0, .inr (.inr (a0))), (1, .inl (x2))]) ok dX6_readWrite_30 rfl (by decide) rfl ?_
  refine tj_aload_n ok 0 dX6_readWrite_31 rfl rfl ?_
  refine tj_getR (k := 4) ok fcX6 (by decide) wm_134 rfl (Or.inl ⟨_, rfl⟩) dX6_readWrite_32 e3 ?_
  refine tj_getR (k := 1) ok fcX5 (by decide) wm_1044 rfl (Or.inr ⟨_, rfl⟩) dX6_readWrite_35 e4 ?_
  refine tj_iload_n ok 1 dX6_readWrite_38 rfl rfl ?_
  refine tj_bipush (v := 7) ok dX6_readWrite_39 (by decide) ?_
  refine tj_iand ok dX6_readWrite_41 ?_
  refine tj_iaload ok dX6_readWrite_42 e5 ?_
  refine tj_iconst (v := 2) ok dX6_readWrite_43 (by decide) ?_
  refine tj_icmp_ne (tgt := 56) ok dX6_readWrite_44 (by decide) (fun hc => ?_) (fun hc => ?_)
  · rw [if_neg hc] at hf
    exact (q_X6_readWrite_56 hf).2 X g K ok nmx lev hK en
  · rw [if_pos hc] at hf
    exact (q_X6_readWrite_47 hf).2 X g K ok nmx lev hK en
def b_X6_readWrite_14 (a0 : Nat) (h : AH) : Option (Int32 × AH) :=
  (ok_v h a0 6).bind fun x1 => (f_X6_mayAct a0 h).bind fun q2 => if q2.1 = 0 then b_X6_readWrite_21 q2.2 else b_X6_readWrite_23 a0 q2.2
set_option maxHeartbeats 4000000 in
set_option maxRecDepth 100000 in
theorem q_X6_readWrite_14 {a0 : Nat} {h hE : AH} {v : Int32} (hf : b_X6_readWrite_14 a0 h = some (v, hE)) : JD cX6_readWrite 2 RX6 "readWrite" (some .boolean) (5) 14 [(0, .inr (.inr (a0)))] [] h hE (some (.inl (v))) := by
  unfold b_X6_readWrite_14 at hf
  obtain ⟨x1, e1, hf⟩ := bnd hf
  obtain ⟨⟨x2, h2⟩, e2, hf⟩ := bnd hf
  try dsimp only at hf
  have k2 := c_X6_mayAct e2
  have m2 := (k2 default_g).1
  have mE : hp_n h2 ≤ hp_n hE ∧ hp_s h2 ≤ hp_s hE := by
    by_cases hc : x2 = 0
    · rw [if_pos hc] at hf; exact (q_X6_readWrite_21 hf).1
    · rw [if_neg hc] at hf; exact (q_X6_readWrite_23 hf).1
  refine ⟨by omega, fun X g K ok nmx lev hK en => ?_⟩
  refine tj_aload_n ok 0 dX6_readWrite_14 rfl rfl ?_
  refine tj_callV (rest := ([] : List TV).map (vl g)) (as := []) ok lev (by omega) fcX6.1 (by decide) rfl (of_if e1).1 (k2 g) (CaX.of en (by omega)) kn_X6_mayAct wm_1073 wm_1074 wm_1075 (rs_ok (Nat.le_of_ble_eq_true rfl)) rfl rfl dX6_readWrite_15 ?_
  refine tj_if_ne (tgt := 23) ok dX6_readWrite_18 (by decide) (fun hc => ?_) (fun hc => ?_)
  · rw [if_neg hc] at hf
    exact (q_X6_readWrite_23 hf).2 X g K ok nmx lev hK en
  · rw [if_pos hc] at hf
    refine tj_sub (lv' := []) [] rfl ?_
    exact (q_X6_readWrite_21 hf).2 X g K ok nmx lev hK en
def b_X6_readWrite_7 (a0 : Nat) (h : AH) : Option (Int32 × AH) :=
  (ok_v h a0 6).bind fun x1 => (f_X6_countStatement a0 h).bind fun q2 => if q2.1 = 0 then b_X6_readWrite_21 q2.2 else b_X6_readWrite_14 a0 q2.2
set_option maxHeartbeats 4000000 in
set_option maxRecDepth 100000 in
theorem q_X6_readWrite_7 {a0 : Nat} {h hE : AH} {v : Int32} (hf : b_X6_readWrite_7 a0 h = some (v, hE)) : JD cX6_readWrite 2 RX6 "readWrite" (some .boolean) (5) 7 [(0, .inr (.inr (a0)))] [] h hE (some (.inl (v))) := by
  unfold b_X6_readWrite_7 at hf
  obtain ⟨x1, e1, hf⟩ := bnd hf
  obtain ⟨⟨x2, h2⟩, e2, hf⟩ := bnd hf
  try dsimp only at hf
  have k2 := c_X6_countStatement e2
  have m2 := (k2 default_g).1
  have mE : hp_n h2 ≤ hp_n hE ∧ hp_s h2 ≤ hp_s hE := by
    by_cases hc : x2 = 0
    · rw [if_pos hc] at hf; exact (q_X6_readWrite_21 hf).1
    · rw [if_neg hc] at hf; exact (q_X6_readWrite_14 hf).1
  refine ⟨by omega, fun X g K ok nmx lev hK en => ?_⟩
  refine tj_aload_n ok 0 dX6_readWrite_7 rfl rfl ?_
  refine tj_callV (rest := ([] : List TV).map (vl g)) (as := []) ok lev (by omega) fcX6.1 (by decide) rfl (of_if e1).1 (k2 g) (CaX.of en (by omega)) kn_X6_countStatement wm_1076 wm_1077 wm_1078 (rs_ok (Nat.le_of_ble_eq_true rfl)) rfl rfl dX6_readWrite_8 ?_
  refine tj_if_eq (tgt := 21) ok dX6_readWrite_11 (by decide) (fun hc => ?_) (fun hc => ?_)
  · rw [if_pos hc] at hf
    refine tj_sub (lv' := []) [] rfl ?_
    exact (q_X6_readWrite_21 hf).2 X g K ok nmx lev hK en
  · rw [if_neg hc] at hf
    exact (q_X6_readWrite_14 hf).2 X g K ok nmx lev hK en
def b_X6_readWrite_0 (a0 : Nat) (h : AH) : Option (Int32 × AH) :=
  (ok_v h a0 6).bind fun x1 => (f_X6_checkCell a0 h).bind fun q2 => if q2.1 = 0 then b_X6_readWrite_21 q2.2 else b_X6_readWrite_7 a0 q2.2
set_option maxHeartbeats 4000000 in
set_option maxRecDepth 100000 in
theorem q_X6_readWrite_0 {a0 : Nat} {h hE : AH} {v : Int32} (hf : b_X6_readWrite_0 a0 h = some (v, hE)) : JD cX6_readWrite 2 RX6 "readWrite" (some .boolean) (5) 0 [(0, .inr (.inr (a0)))] [] h hE (some (.inl (v))) := by
  unfold b_X6_readWrite_0 at hf
  obtain ⟨x1, e1, hf⟩ := bnd hf
  obtain ⟨⟨x2, h2⟩, e2, hf⟩ := bnd hf
  try dsimp only at hf
  have k2 := c_X6_checkCell e2
  have m2 := (k2 default_g).1
  have mE : hp_n h2 ≤ hp_n hE ∧ hp_s h2 ≤ hp_s hE := by
    by_cases hc : x2 = 0
    · rw [if_pos hc] at hf; exact (q_X6_readWrite_21 hf).1
    · rw [if_neg hc] at hf; exact (q_X6_readWrite_7 hf).1
  refine ⟨by omega, fun X g K ok nmx lev hK en => ?_⟩
  refine tj_aload_n ok 0 dX6_readWrite_0 rfl rfl ?_
  refine tj_callV (rest := ([] : List TV).map (vl g)) (as := []) ok lev (by omega) fcX6.1 (by decide) rfl (of_if e1).1 (k2 g) (CaX.of en (by omega)) kn_X6_checkCell wm_1098 wm_1099 wm_1100 (rs_ok (Nat.le_of_ble_eq_true rfl)) rfl rfl dX6_readWrite_1 ?_
  refine tj_if_eq (tgt := 21) ok dX6_readWrite_4 (by decide) (fun hc => ?_) (fun hc => ?_)
  · rw [if_pos hc] at hf
    refine tj_sub (lv' := []) [] rfl ?_
    exact (q_X6_readWrite_21 hf).2 X g K ok nmx lev hK en
  · rw [if_neg hc] at hf
    exact (q_X6_readWrite_7 hf).2 X g K ok nmx lev hK en
def f_X6_readWrite (a0 : Nat) (h : AH) : Option (Int32 × AH) := b_X6_readWrite_0  a0 h
theorem c_X6_readWrite {a0 : Nat} {h hE : AH} {v : Int32} (hf : f_X6_readWrite a0 h = some (v, hE)) : ∀ g : GT, CM g (5) yX6_readWrite cX6_readWrite 2 (some .boolean) h [.inr (.inr (a0))] hE (some (.inl (v))) :=
  CM.ofJ (by decide) (by show _ ≤ 2; exact Nat.le_of_ble_eq_true rfl) (q_X6_readWrite_0 hf)
/-! ===== LitmusHouse$Reader.readStatement()Z ===== -/
def b_X6_readStatement_58 (rc : Nat → Int32 → AH → Option (Int32 × AH)) (a0 : Nat) (h : AH) : Option (Int32 × AH) :=
  (ok_v h a0 6).bind fun x1 => (f_X6_readMonitorStatement a0 (3 : Int32) h).bind fun q2 => ok_z q2.1 q2.2
set_option maxHeartbeats 4000000 in
set_option maxRecDepth 100000 in
theorem q_X6_readStatement_58 {rc : Nat → Int32 → AH → Option (Int32 × AH)} {kd : Nat} (hrc : ∀ {c0 : Nat} {c1 : Int32} {h h1 : AH} {v : Int32} , rc c0 c1 h = some (v, h1) → ∀ g : GT, CM g (kd) yX6_readBlock cX6_readBlock 3 (some .boolean) h [.inr (.inr (c0)), .inl (c1)] h1 (some (.inl (v)))) {a0 : Nat} {h hE : AH} {v : Int32} (hf : b_X6_readStatement_58 rc a0 h = some (v, hE)) : JD cX6_readStatement 1 RX6 "readStatement" (some .boolean) (kd + 6) 58 [(0, .inr (.inr (a0)))] [] h hE (some (.inl (v))) := by
  unfold b_X6_readStatement_58 at hf
  obtain ⟨x1, e1, hf⟩ := bnd hf
  obtain ⟨⟨x2, h2⟩, e2, hf⟩ := bnd hf
  try dsimp only at hf
  have k2 := c_X6_readMonitorStatement e2
  have m2 := (k2 default_g).1
  have mE : hp_n h2 ≤ hp_n hE ∧ hp_s h2 ≤ hp_s hE := by obtain ⟨-, q⟩ := of_if hf; cases q; exact ⟨Nat.le_refl _, Nat.le_refl _⟩
  refine ⟨by omega, fun X g K ok nmx lev hK en => ?_⟩
  refine tj_aload_n ok 0 dX6_readStatement_58 rfl rfl ?_
  refine tj_iconst (v := 3) ok dX6_readStatement_59 (by decide) ?_
  refine tj_callV (rest := ([] : List TV).map (vl g)) (as := [.inl ((3 : Int32))]) ok lev (by omega) fcX6.1 (by decide) rfl (of_if e1).1 (k2 g) (CaX.of en (by omega)) kn_X6_readMonitorStatement wm_1116 wm_1117 wm_1118 (rs_ok (Nat.le_of_ble_eq_true rfl)) rfl rfl dX6_readStatement_60 ?_
  exact tj_zreturn ok hf en dX6_readStatement_63
def b_X6_readStatement_64 (rc : Nat → Int32 → AH → Option (Int32 × AH)) (a0 : Nat) (h : AH) : Option (Int32 × AH) :=
  (ok_v h a0 6).bind fun x1 => (f_X6_readMonitorStatement a0 (4 : Int32) h).bind fun q2 => ok_z q2.1 q2.2
set_option maxHeartbeats 4000000 in
set_option maxRecDepth 100000 in
theorem q_X6_readStatement_64 {rc : Nat → Int32 → AH → Option (Int32 × AH)} {kd : Nat} (hrc : ∀ {c0 : Nat} {c1 : Int32} {h h1 : AH} {v : Int32} , rc c0 c1 h = some (v, h1) → ∀ g : GT, CM g (kd) yX6_readBlock cX6_readBlock 3 (some .boolean) h [.inr (.inr (c0)), .inl (c1)] h1 (some (.inl (v)))) {a0 : Nat} {h hE : AH} {v : Int32} (hf : b_X6_readStatement_64 rc a0 h = some (v, hE)) : JD cX6_readStatement 1 RX6 "readStatement" (some .boolean) (kd + 6) 64 [(0, .inr (.inr (a0)))] [] h hE (some (.inl (v))) := by
  unfold b_X6_readStatement_64 at hf
  obtain ⟨x1, e1, hf⟩ := bnd hf
  obtain ⟨⟨x2, h2⟩, e2, hf⟩ := bnd hf
  try dsimp only at hf
  have k2 := c_X6_readMonitorStatement e2
  have m2 := (k2 default_g).1
  have mE : hp_n h2 ≤ hp_n hE ∧ hp_s h2 ≤ hp_s hE := by obtain ⟨-, q⟩ := of_if hf; cases q; exact ⟨Nat.le_refl _, Nat.le_refl _⟩
  refine ⟨by omega, fun X g K ok nmx lev hK en => ?_⟩
  refine tj_aload_n ok 0 dX6_readStatement_64 rfl rfl ?_
  refine tj_iconst (v := 4) ok dX6_readStatement_65 (by decide) ?_
  refine tj_callV (rest := ([] : List TV).map (vl g)) (as := [.inl ((4 : Int32))]) ok lev (by omega) fcX6.1 (by decide) rfl (of_if e1).1 (k2 g) (CaX.of en (by omega)) kn_X6_readMonitorStatement wm_1116 wm_1117 wm_1118 (rs_ok (Nat.le_of_ble_eq_true rfl)) rfl rfl dX6_readStatement_66 ?_
  exact tj_zreturn ok hf en dX6_readStatement_69
def b_X6_readStatement_70 (rc : Nat → Int32 → AH → Option (Int32 × AH)) (a0 : Nat) (h : AH) : Option (Int32 × AH) :=
  (ok_v h a0 6).bind fun x1 => (f_X6_readDone a0 h).bind fun q2 => ok_z q2.1 q2.2
set_option maxHeartbeats 4000000 in
set_option maxRecDepth 100000 in
theorem q_X6_readStatement_70 {rc : Nat → Int32 → AH → Option (Int32 × AH)} {kd : Nat} (hrc : ∀ {c0 : Nat} {c1 : Int32} {h h1 : AH} {v : Int32} , rc c0 c1 h = some (v, h1) → ∀ g : GT, CM g (kd) yX6_readBlock cX6_readBlock 3 (some .boolean) h [.inr (.inr (c0)), .inl (c1)] h1 (some (.inl (v)))) {a0 : Nat} {h hE : AH} {v : Int32} (hf : b_X6_readStatement_70 rc a0 h = some (v, hE)) : JD cX6_readStatement 1 RX6 "readStatement" (some .boolean) (kd + 6) 70 [(0, .inr (.inr (a0)))] [] h hE (some (.inl (v))) := by
  unfold b_X6_readStatement_70 at hf
  obtain ⟨x1, e1, hf⟩ := bnd hf
  obtain ⟨⟨x2, h2⟩, e2, hf⟩ := bnd hf
  try dsimp only at hf
  have k2 := c_X6_readDone e2
  have m2 := (k2 default_g).1
  have mE : hp_n h2 ≤ hp_n hE ∧ hp_s h2 ≤ hp_s hE := by obtain ⟨-, q⟩ := of_if hf; cases q; exact ⟨Nat.le_refl _, Nat.le_refl _⟩
  refine ⟨by omega, fun X g K ok nmx lev hK en => ?_⟩
  refine tj_aload_n ok 0 dX6_readStatement_70 rfl rfl ?_
  refine tj_callV (rest := ([] : List TV).map (vl g)) (as := []) ok lev (by omega) fcX6.1 (by decide) rfl (of_if e1).1 (k2 g) (CaX.of en (by omega)) kn_X6_readDone wm_1119 wm_1120 wm_1121 (rs_ok (Nat.le_of_ble_eq_true rfl)) rfl rfl dX6_readStatement_71 ?_
  exact tj_zreturn ok hf en dX6_readStatement_74
def b_X6_readStatement_75 (rc : Nat → Int32 → AH → Option (Int32 × AH)) (a0 : Nat) (h : AH) : Option (Int32 × AH) :=
  (ok_v h a0 6).bind fun x1 => (f_X6_readIf rc a0 h).bind fun q2 => ok_z q2.1 q2.2
set_option maxHeartbeats 4000000 in
set_option maxRecDepth 100000 in
theorem q_X6_readStatement_75 {rc : Nat → Int32 → AH → Option (Int32 × AH)} {kd : Nat} (hrc : ∀ {c0 : Nat} {c1 : Int32} {h h1 : AH} {v : Int32} , rc c0 c1 h = some (v, h1) → ∀ g : GT, CM g (kd) yX6_readBlock cX6_readBlock 3 (some .boolean) h [.inr (.inr (c0)), .inl (c1)] h1 (some (.inl (v)))) {a0 : Nat} {h hE : AH} {v : Int32} (hf : b_X6_readStatement_75 rc a0 h = some (v, hE)) : JD cX6_readStatement 1 RX6 "readStatement" (some .boolean) (kd + 6) 75 [(0, .inr (.inr (a0)))] [] h hE (some (.inl (v))) := by
  unfold b_X6_readStatement_75 at hf
  obtain ⟨x1, e1, hf⟩ := bnd hf
  obtain ⟨⟨x2, h2⟩, e2, hf⟩ := bnd hf
  try dsimp only at hf
  have k2 := c_X6_readIf (rc := rc) hrc e2
  have m2 := (k2 default_g).1
  have mE : hp_n h2 ≤ hp_n hE ∧ hp_s h2 ≤ hp_s hE := by obtain ⟨-, q⟩ := of_if hf; cases q; exact ⟨Nat.le_refl _, Nat.le_refl _⟩
  refine ⟨by omega, fun X g K ok nmx lev hK en => ?_⟩
  refine tj_aload_n ok 0 dX6_readStatement_75 rfl rfl ?_
  refine tj_callV (rest := ([] : List TV).map (vl g)) (as := []) ok lev (by omega) fcX6.1 (by decide) rfl (of_if e1).1 (k2 g) (CaX.of en (by omega)) kn_X6_readIf wm_1122 wm_1123 wm_1124 (rs_ok (Nat.le_of_ble_eq_true rfl)) rfl rfl dX6_readStatement_76 ?_
  exact tj_zreturn ok hf en dX6_readStatement_79
def b_X6_readStatement_80 (rc : Nat → Int32 → AH → Option (Int32 × AH)) (a0 : Nat) (h : AH) : Option (Int32 × AH) :=
  (ok_v h a0 6).bind fun x1 => (f_X6_refuseToken a0 h).bind fun q2 => ok_z q2.1 q2.2
set_option maxHeartbeats 4000000 in
set_option maxRecDepth 100000 in
theorem q_X6_readStatement_80 {rc : Nat → Int32 → AH → Option (Int32 × AH)} {kd : Nat} (hrc : ∀ {c0 : Nat} {c1 : Int32} {h h1 : AH} {v : Int32} , rc c0 c1 h = some (v, h1) → ∀ g : GT, CM g (kd) yX6_readBlock cX6_readBlock 3 (some .boolean) h [.inr (.inr (c0)), .inl (c1)] h1 (some (.inl (v)))) {a0 : Nat} {h hE : AH} {v : Int32} (hf : b_X6_readStatement_80 rc a0 h = some (v, hE)) : JD cX6_readStatement 1 RX6 "readStatement" (some .boolean) (kd + 6) 80 [(0, .inr (.inr (a0)))] [] h hE (some (.inl (v))) := by
  unfold b_X6_readStatement_80 at hf
  obtain ⟨x1, e1, hf⟩ := bnd hf
  obtain ⟨⟨x2, h2⟩, e2, hf⟩ := bnd hf
  try dsimp only at hf
  have k2 := c_X6_refuseToken e2
  have m2 := (k2 default_g).1
  have mE : hp_n h2 ≤ hp_n hE ∧ hp_s h2 ≤ hp_s hE := by obtain ⟨-, q⟩ := of_if hf; cases q; exact ⟨Nat.le_refl _, Nat.le_refl _⟩
  refine ⟨by omega, fun X g K ok nmx lev hK en => ?_⟩
  refine tj_aload_n ok 0 dX6_readStatement_80 rfl rfl ?_
  refine tj_callV (rest := ([] : List TV).map (vl g)) (as := []) ok lev (by omega) fcX6.1 (by decide) rfl (of_if e1).1 (k2 g) (CaX.of en (by omega)) kn_X6_refuseToken wm_1093 wm_1094 wm_1095 (rs_ok (Nat.le_of_ble_eq_true rfl)) rfl rfl dX6_readStatement_81 ?_
  exact tj_zreturn ok hf en dX6_readStatement_84
def b_X6_readStatement_53 (rc : Nat → Int32 → AH → Option (Int32 × AH)) (a0 : Nat) (h : AH) : Option (Int32 × AH) :=
  (ok_v h a0 6).bind fun x1 => (f_X6_readWrite a0 h).bind fun q2 => ok_z q2.1 q2.2
set_option maxHeartbeats 4000000 in
set_option maxRecDepth 100000 in
theorem q_X6_readStatement_53 {rc : Nat → Int32 → AH → Option (Int32 × AH)} {kd : Nat} (hrc : ∀ {c0 : Nat} {c1 : Int32} {h h1 : AH} {v : Int32} , rc c0 c1 h = some (v, h1) → ∀ g : GT, CM g (kd) yX6_readBlock cX6_readBlock 3 (some .boolean) h [.inr (.inr (c0)), .inl (c1)] h1 (some (.inl (v)))) {a0 : Nat} {h hE : AH} {v : Int32} (hf : b_X6_readStatement_53 rc a0 h = some (v, hE)) : JD cX6_readStatement 1 RX6 "readStatement" (some .boolean) (kd + 6) 53 [(0, .inr (.inr (a0)))] [] h hE (some (.inl (v))) := by
  unfold b_X6_readStatement_53 at hf
  obtain ⟨x1, e1, hf⟩ := bnd hf
  obtain ⟨⟨x2, h2⟩, e2, hf⟩ := bnd hf
  try dsimp only at hf
  have k2 := c_X6_readWrite e2
  have m2 := (k2 default_g).1
  have mE : hp_n h2 ≤ hp_n hE ∧ hp_s h2 ≤ hp_s hE := by obtain ⟨-, q⟩ := of_if hf; cases q; exact ⟨Nat.le_refl _, Nat.le_refl _⟩
  refine ⟨by omega, fun X g K ok nmx lev hK en => ?_⟩
  refine tj_aload_n ok 0 dX6_readStatement_53 rfl rfl ?_
  refine tj_callV (rest := ([] : List TV).map (vl g)) (as := []) ok lev (by omega) fcX6.1 (by decide) rfl (of_if e1).1 (k2 g) (CaX.of en (by omega)) kn_X6_readWrite wm_1125 wm_1126 wm_1127 (rs_ok (Nat.le_of_ble_eq_true rfl)) rfl rfl dX6_readStatement_54 ?_
  exact tj_zreturn ok hf en dX6_readStatement_57
def b_X6_readStatement_48 (rc : Nat → Int32 → AH → Option (Int32 × AH)) (a0 : Nat) (h : AH) : Option (Int32 × AH) :=
  (ok_v h a0 6).bind fun x1 => (f_X6_readLocalStatement a0 h).bind fun q2 => ok_z q2.1 q2.2
set_option maxHeartbeats 4000000 in
set_option maxRecDepth 100000 in
theorem q_X6_readStatement_48 {rc : Nat → Int32 → AH → Option (Int32 × AH)} {kd : Nat} (hrc : ∀ {c0 : Nat} {c1 : Int32} {h h1 : AH} {v : Int32} , rc c0 c1 h = some (v, h1) → ∀ g : GT, CM g (kd) yX6_readBlock cX6_readBlock 3 (some .boolean) h [.inr (.inr (c0)), .inl (c1)] h1 (some (.inl (v)))) {a0 : Nat} {h hE : AH} {v : Int32} (hf : b_X6_readStatement_48 rc a0 h = some (v, hE)) : JD cX6_readStatement 1 RX6 "readStatement" (some .boolean) (kd + 6) 48 [(0, .inr (.inr (a0)))] [] h hE (some (.inl (v))) := by
  unfold b_X6_readStatement_48 at hf
  obtain ⟨x1, e1, hf⟩ := bnd hf
  obtain ⟨⟨x2, h2⟩, e2, hf⟩ := bnd hf
  try dsimp only at hf
  have k2 := c_X6_readLocalStatement e2
  have m2 := (k2 default_g).1
  have mE : hp_n h2 ≤ hp_n hE ∧ hp_s h2 ≤ hp_s hE := by obtain ⟨-, q⟩ := of_if hf; cases q; exact ⟨Nat.le_refl _, Nat.le_refl _⟩
  refine ⟨by omega, fun X g K ok nmx lev hK en => ?_⟩
  refine tj_aload_n ok 0 dX6_readStatement_48 rfl rfl ?_
  refine tj_callV (rest := ([] : List TV).map (vl g)) (as := []) ok lev (by omega) fcX6.1 (by decide) rfl (of_if e1).1 (k2 g) (CaX.of en (by omega)) kn_X6_readLocalStatement wm_1128 wm_1129 wm_1130 (rs_ok (Nat.le_of_ble_eq_true rfl)) rfl rfl dX6_readStatement_49 ?_
  exact tj_zreturn ok hf en dX6_readStatement_52
def b_X6_readStatement_0 (rc : Nat → Int32 → AH → Option (Int32 × AH)) (a0 : Nat) (h : AH) : Option (Int32 × AH) :=
  (g_r h a0 6 2).bind fun x1 => (g_i h x1 7 0).bind fun x2 => if x2 = 6 then b_X6_readStatement_58 rc a0 h else if x2 = 7 then b_X6_readStatement_64 rc a0 h else if x2 = 8 then b_X6_readStatement_70 rc a0 h else if x2 = 9 then b_X6_readStatement_75 rc a0 h else if x2 = 10 then b_X6_readStatement_80 rc a0 h else if x2 = 11 then b_X6_readStatement_53 rc a0 h else if x2 = 12 then b_X6_readStatement_48 rc a0 h else b_X6_readStatement_80 rc a0 h
set_option maxHeartbeats 4000000 in
set_option maxRecDepth 100000 in
theorem q_X6_readStatement_0 {rc : Nat → Int32 → AH → Option (Int32 × AH)} {kd : Nat} (hrc : ∀ {c0 : Nat} {c1 : Int32} {h h1 : AH} {v : Int32} , rc c0 c1 h = some (v, h1) → ∀ g : GT, CM g (kd) yX6_readBlock cX6_readBlock 3 (some .boolean) h [.inr (.inr (c0)), .inl (c1)] h1 (some (.inl (v)))) {a0 : Nat} {h hE : AH} {v : Int32} (hf : b_X6_readStatement_0 rc a0 h = some (v, hE)) : JD cX6_readStatement 1 RX6 "readStatement" (some .boolean) (kd + 6) 0 [(0, .inr (.inr (a0)))] [] h hE (some (.inl (v))) := by
  unfold b_X6_readStatement_0 at hf
  obtain ⟨x1, e1, hf⟩ := bnd hf
  obtain ⟨x2, e2, hf⟩ := bnd hf
  have mE : hp_n h ≤ hp_n hE ∧ hp_s h ≤ hp_s hE := by
    by_cases hc0 : x2 = 6
    · rw [if_pos hc0] at hf; exact (q_X6_readStatement_58 hrc hf).1
    rw [if_neg hc0] at hf
    by_cases hc1 : x2 = 7
    · rw [if_pos hc1] at hf; exact (q_X6_readStatement_64 hrc hf).1
    rw [if_neg hc1] at hf
    by_cases hc2 : x2 = 8
    · rw [if_pos hc2] at hf; exact (q_X6_readStatement_70 hrc hf).1
    rw [if_neg hc2] at hf
    by_cases hc3 : x2 = 9
    · rw [if_pos hc3] at hf; exact (q_X6_readStatement_75 hrc hf).1
    rw [if_neg hc3] at hf
    by_cases hc4 : x2 = 10
    · rw [if_pos hc4] at hf; exact (q_X6_readStatement_80 hrc hf).1
    rw [if_neg hc4] at hf
    by_cases hc5 : x2 = 11
    · rw [if_pos hc5] at hf; exact (q_X6_readStatement_53 hrc hf).1
    rw [if_neg hc5] at hf
    by_cases hc6 : x2 = 12
    · rw [if_pos hc6] at hf; exact (q_X6_readStatement_48 hrc hf).1
    rw [if_neg hc6] at hf
    exact (q_X6_readStatement_80 hrc hf).1
  refine ⟨by omega, fun X g K ok nmx lev hK en => ?_⟩
  refine tj_aload_n ok 0 dX6_readStatement_0 rfl rfl ?_
  refine tj_getR (k := 2) ok fcX6 (by decide) wm_132 rfl (Or.inl ⟨_, rfl⟩) dX6_readStatement_1 e1 ?_
  refine tj_getI (k := 0) ok fcX7 (by decide) wm_1062 rfl (Or.inl rfl) dX6_readStatement_4 e2 ?_
  by_cases hc0 : x2 = 6
  · rw [if_pos hc0] at hf
    have hx : (x2).toInt = 6 := by rw [hc0]; decide
    refine tj_tabIn (off := 51) (tgt := 58) ok dX6_readStatement_7 (by rw [hx]; decide) (by rw [hx]; decide) (by rw [hx]; decide) (by decide) ?_
    exact (q_X6_readStatement_58 hrc hf).2 X g K ok nmx lev hK en
  rw [if_neg hc0] at hf
  have hn0 := tn_i (n := 6) (by decide) hc0
  have hp0 := tn_j hn0
  by_cases hc1 : x2 = 7
  · rw [if_pos hc1] at hf
    have hx : (x2).toInt = 7 := by rw [hc1]; decide
    refine tj_tabIn (off := 57) (tgt := 64) ok dX6_readStatement_7 (by rw [hx]; decide) (by rw [hx]; decide) (by rw [hx]; decide) (by decide) ?_
    exact (q_X6_readStatement_64 hrc hf).2 X g K ok nmx lev hK en
  rw [if_neg hc1] at hf
  have hn1 := tn_i (n := 7) (by decide) hc1
  have hp1 := tn_j hn1
  by_cases hc2 : x2 = 8
  · rw [if_pos hc2] at hf
    have hx : (x2).toInt = 8 := by rw [hc2]; decide
    refine tj_tabIn (off := 63) (tgt := 70) ok dX6_readStatement_7 (by rw [hx]; decide) (by rw [hx]; decide) (by rw [hx]; decide) (by decide) ?_
    exact (q_X6_readStatement_70 hrc hf).2 X g K ok nmx lev hK en
  rw [if_neg hc2] at hf
  have hn2 := tn_i (n := 8) (by decide) hc2
  have hp2 := tn_j hn2
  by_cases hc3 : x2 = 9
  · rw [if_pos hc3] at hf
    have hx : (x2).toInt = 9 := by rw [hc3]; decide
    refine tj_tabIn (off := 68) (tgt := 75) ok dX6_readStatement_7 (by rw [hx]; decide) (by rw [hx]; decide) (by rw [hx]; decide) (by decide) ?_
    exact (q_X6_readStatement_75 hrc hf).2 X g K ok nmx lev hK en
  rw [if_neg hc3] at hf
  have hn3 := tn_i (n := 9) (by decide) hc3
  have hp3 := tn_j hn3
  by_cases hc4 : x2 = 10
  · rw [if_pos hc4] at hf
    have hx : (x2).toInt = 10 := by rw [hc4]; decide
    refine tj_tabIn (off := 73) (tgt := 80) ok dX6_readStatement_7 (by rw [hx]; decide) (by rw [hx]; decide) (by rw [hx]; decide) (by decide) ?_
    exact (q_X6_readStatement_80 hrc hf).2 X g K ok nmx lev hK en
  rw [if_neg hc4] at hf
  have hn4 := tn_i (n := 10) (by decide) hc4
  have hp4 := tn_j hn4
  by_cases hc5 : x2 = 11
  · rw [if_pos hc5] at hf
    have hx : (x2).toInt = 11 := by rw [hc5]; decide
    refine tj_tabIn (off := 46) (tgt := 53) ok dX6_readStatement_7 (by rw [hx]; decide) (by rw [hx]; decide) (by rw [hx]; decide) (by decide) ?_
    exact (q_X6_readStatement_53 hrc hf).2 X g K ok nmx lev hK en
  rw [if_neg hc5] at hf
  have hn5 := tn_i (n := 11) (by decide) hc5
  have hp5 := tn_j hn5
  by_cases hc6 : x2 = 12
  · rw [if_pos hc6] at hf
    have hx : (x2).toInt = 12 := by rw [hc6]; decide
    refine tj_tabIn (off := 41) (tgt := 48) ok dX6_readStatement_7 (by rw [hx]; decide) (by rw [hx]; decide) (by rw [hx]; decide) (by decide) ?_
    exact (q_X6_readStatement_48 hrc hf).2 X g K ok nmx lev hK en
  rw [if_neg hc6] at hf
  have hn6 := tn_i (n := 12) (by decide) hc6
  have hp6 := tn_j hn6
  refine tj_tabOut (tgt := 80) ok dX6_readStatement_7 (by omega) (by decide) ?_
  exact (q_X6_readStatement_80 hrc hf).2 X g K ok nmx lev hK en
def f_X6_readStatement (rc : Nat → Int32 → AH → Option (Int32 × AH)) (a0 : Nat) (h : AH) : Option (Int32 × AH) := b_X6_readStatement_0 rc  a0 h
theorem c_X6_readStatement {rc : Nat → Int32 → AH → Option (Int32 × AH)} {kd : Nat} (hrc : ∀ {c0 : Nat} {c1 : Int32} {h h1 : AH} {v : Int32} , rc c0 c1 h = some (v, h1) → ∀ g : GT, CM g (kd) yX6_readBlock cX6_readBlock 3 (some .boolean) h [.inr (.inr (c0)), .inl (c1)] h1 (some (.inl (v)))) {a0 : Nat} {h hE : AH} {v : Int32} (hf : f_X6_readStatement rc a0 h = some (v, hE)) : ∀ g : GT, CM g (kd + 6) yX6_readStatement cX6_readStatement 1 (some .boolean) h [.inr (.inr (a0))] hE (some (.inl (v))) :=
  CM.ofJ (by decide) (by show _ ≤ 1; exact Nat.le_of_ble_eq_true rfl) (q_X6_readStatement_0 hrc hf)
/-! ===== LitmusHouse$Reader.readBlock(I)Z ===== -/
def b_X6_readBlock_73 (rc : Nat → Int32 → AH → Option (Int32 × AH)) (a0 : Nat) (h : AH) : Option (Int32 × AH) :=
  (ok_v h a0 6).bind fun x1 => (f_X6_pass a0 (21 : Int32) h).bind fun q2 => ok_z q2.1 q2.2
set_option maxHeartbeats 4000000 in
set_option maxRecDepth 100000 in
theorem q_X6_readBlock_73 {rc : Nat → Int32 → AH → Option (Int32 × AH)} {kd : Nat} (hrc : ∀ {c0 : Nat} {c1 : Int32} {h h1 : AH} {v : Int32} , rc c0 c1 h = some (v, h1) → ∀ g : GT, CM g (kd) yX6_readBlock cX6_readBlock 3 (some .boolean) h [.inr (.inr (c0)), .inl (c1)] h1 (some (.inl (v)))) {a0 : Nat} {h hE : AH} {v : Int32} (hf : b_X6_readBlock_73 rc a0 h = some (v, hE)) : JD cX6_readBlock 3 RX6 "readBlock" (some .boolean) (kd + 7) 73 [(0, .inr (.inr (a0)))] [] h hE (some (.inl (v))) := by
  unfold b_X6_readBlock_73 at hf
  obtain ⟨x1, e1, hf⟩ := bnd hf
  obtain ⟨⟨x2, h2⟩, e2, hf⟩ := bnd hf
  try dsimp only at hf
  have k2 := c_X6_pass e2
  have m2 := (k2 default_g).1
  have mE : hp_n h2 ≤ hp_n hE ∧ hp_s h2 ≤ hp_s hE := by obtain ⟨-, q⟩ := of_if hf; cases q; exact ⟨Nat.le_refl _, Nat.le_refl _⟩
  refine ⟨by omega, fun X g K ok nmx lev hK en => ?_⟩
  refine tj_aload_n ok 0 dX6_readBlock_73 rfl rfl ?_
  refine tj_bipush (v := 21) ok dX6_readBlock_74 (by decide) ?_
  refine tj_callV (rest := ([] : List TV).map (vl g)) (as := [.inl ((21 : Int32))]) ok lev (by omega) fcX6.1 (by decide) rfl (of_if e1).1 (k2 g) (CaX.of en (by omega)) kn_X6_pass wm_1067 wm_1068 wm_1069 (rs_ok (Nat.le_of_ble_eq_true rfl)) rfl rfl dX6_readBlock_76 ?_
  exact tj_zreturn ok hf en dX6_readBlock_79
def b_X6_readBlock_60 (rc : Nat → Int32 → AH → Option (Int32 × AH)) (a0 : Nat) (h : AH) : Option (Int32 × AH) :=
  (g_r h a0 6 2).bind fun x1 => (g_i h x1 7 2).bind fun x2 => (ok_v h a0 6).bind fun x3 => (f_X6_refuse a0 (5 : Int32) x2 h).bind fun q4 => ok_z q4.1 q4.2
set_option maxHeartbeats 4000000 in
set_option maxRecDepth 100000 in
theorem q_X6_readBlock_60 {rc : Nat → Int32 → AH → Option (Int32 × AH)} {kd : Nat} (hrc : ∀ {c0 : Nat} {c1 : Int32} {h h1 : AH} {v : Int32} , rc c0 c1 h = some (v, h1) → ∀ g : GT, CM g (kd) yX6_readBlock cX6_readBlock 3 (some .boolean) h [.inr (.inr (c0)), .inl (c1)] h1 (some (.inl (v)))) {a0 : Nat} {h hE : AH} {v : Int32} (hf : b_X6_readBlock_60 rc a0 h = some (v, hE)) : JD cX6_readBlock 3 RX6 "readBlock" (some .boolean) (kd + 7) 60 [(0, .inr (.inr (a0)))] [] h hE (some (.inl (v))) := by
  unfold b_X6_readBlock_60 at hf
  obtain ⟨x1, e1, hf⟩ := bnd hf
  obtain ⟨x2, e2, hf⟩ := bnd hf
  obtain ⟨x3, e3, hf⟩ := bnd hf
  obtain ⟨⟨x4, h4⟩, e4, hf⟩ := bnd hf
  try dsimp only at hf
  have k4 := c_X6_refuse e4
  have m4 := (k4 default_g).1
  have mE : hp_n h4 ≤ hp_n hE ∧ hp_s h4 ≤ hp_s hE := by obtain ⟨-, q⟩ := of_if hf; cases q; exact ⟨Nat.le_refl _, Nat.le_refl _⟩
  refine ⟨by omega, fun X g K ok nmx lev hK en => ?_⟩
  refine tj_aload_n ok 0 dX6_readBlock_60 rfl rfl ?_
  refine tj_iconst (v := 5) ok dX6_readBlock_61 (by decide) ?_
  refine tj_aload_n ok 0 dX6_readBlock_62 rfl rfl ?_
  refine tj_getR (k := 2) ok fcX6 (by decide) wm_132 rfl (Or.inl ⟨_, rfl⟩) dX6_readBlock_63 e1 ?_
  refine tj_getI (k := 2) ok fcX7 (by decide) wm_1040 rfl (Or.inl rfl) dX6_readBlock_66 e2 ?_
  refine tj_callV (rest := ([] : List TV).map (vl g)) (as := [.inl ((5 : Int32)), .inl (x2)]) ok lev (by omega) fcX6.1 (by decide) rfl (of_if e3).1 (k4 g) (CaX.of en (by omega)) kn_X6_refuse wm_1041 wm_1042 wm_1043 (rs_ok (Nat.le_of_ble_eq_true rfl)) rfl rfl dX6_readBlock_69 ?_
  exact tj_zreturn ok hf en dX6_readBlock_72
def b_X6_readBlock_52 (rc : Nat → Int32 → AH → Option (Int32 × AH)) (a0 : Nat) (a1 : Int32) (h : AH) : Option (Int32 × AH) :=
  (g_i h a0 6 7).bind fun x1 => if x1 = a1 then b_X6_readBlock_73 rc a0 h else b_X6_readBlock_60 rc a0 h
set_option maxHeartbeats 4000000 in
set_option maxRecDepth 100000 in
theorem q_X6_readBlock_52 {rc : Nat → Int32 → AH → Option (Int32 × AH)} {kd : Nat} (hrc : ∀ {c0 : Nat} {c1 : Int32} {h h1 : AH} {v : Int32} , rc c0 c1 h = some (v, h1) → ∀ g : GT, CM g (kd) yX6_readBlock cX6_readBlock 3 (some .boolean) h [.inr (.inr (c0)), .inl (c1)] h1 (some (.inl (v)))) {a0 : Nat} {a1 : Int32} {h hE : AH} {v : Int32} (hf : b_X6_readBlock_52 rc a0 a1 h = some (v, hE)) : JD cX6_readBlock 3 RX6 "readBlock" (some .boolean) (kd + 7) 52 [(0, .inr (.inr (a0))), (1, .inl (a1))] [] h hE (some (.inl (v))) := by
  unfold b_X6_readBlock_52 at hf
  obtain ⟨x1, e1, hf⟩ := bnd hf
  have mE : hp_n h ≤ hp_n hE ∧ hp_s h ≤ hp_s hE := by
    by_cases hc : x1 = a1
    · rw [if_pos hc] at hf; exact (q_X6_readBlock_73 hrc hf).1
    · rw [if_neg hc] at hf; exact (q_X6_readBlock_60 hrc hf).1
  refine ⟨by omega, fun X g K ok nmx lev hK en => ?_⟩
  refine tj_aload_n ok 0 dX6_readBlock_52 rfl rfl ?_
  refine tj_getI (k := 7) ok fcX6 (by decide) wm_137 rfl (Or.inl rfl) dX6_readBlock_53 e1 ?_
  refine tj_iload_n ok 1 dX6_readBlock_56 rfl rfl ?_
  refine tj_icmp_eq (tgt := 73) ok dX6_readBlock_57 (by decide) (fun hc => ?_) (fun hc => ?_)
  · rw [if_pos hc] at hf
    refine tj_sub (lv' := [(0, .inr (.inr (a0)))]) [0] rfl ?_
    exact (q_X6_readBlock_73 hrc hf).2 X g K ok nmx lev hK en
  · rw [if_neg hc] at hf
    refine tj_sub (lv' := [(0, .inr (.inr (a0)))]) [0] rfl ?_
    exact (q_X6_readBlock_60 hrc hf).2 X g K ok nmx lev hK en
def b_X6_readBlock_47 (rc : Nat → Int32 → AH → Option (Int32 × AH)) (a0 : Nat) (a1 : Int32) (h : AH) : Option (Int32 × AH) :=
  if a1 = (-1 : Int32) then b_X6_readBlock_73 rc a0 h else b_X6_readBlock_52 rc a0 a1 h
set_option maxHeartbeats 4000000 in
set_option maxRecDepth 100000 in
theorem q_X6_readBlock_47 {rc : Nat → Int32 → AH → Option (Int32 × AH)} {kd : Nat} (hrc : ∀ {c0 : Nat} {c1 : Int32} {h h1 : AH} {v : Int32} , rc c0 c1 h = some (v, h1) → ∀ g : GT, CM g (kd) yX6_readBlock cX6_readBlock 3 (some .boolean) h [.inr (.inr (c0)), .inl (c1)] h1 (some (.inl (v)))) {a0 : Nat} {a1 : Int32} {h hE : AH} {v : Int32} (hf : b_X6_readBlock_47 rc a0 a1 h = some (v, hE)) : JD cX6_readBlock 3 RX6 "readBlock" (some .boolean) (kd + 7) 47 [(0, .inr (.inr (a0))), (1, .inl (a1))] [] h hE (some (.inl (v))) := by
  unfold b_X6_readBlock_47 at hf
  have mE : hp_n h ≤ hp_n hE ∧ hp_s h ≤ hp_s hE := by
    by_cases hc : a1 = (-1 : Int32)
    · rw [if_pos hc] at hf; exact (q_X6_readBlock_73 hrc hf).1
    · rw [if_neg hc] at hf; exact (q_X6_readBlock_52 hrc hf).1
  refine ⟨by omega, fun X g K ok nmx lev hK en => ?_⟩
  refine tj_iload_n ok 1 dX6_readBlock_47 rfl rfl ?_
  refine tj_iconst (v := -1) ok dX6_readBlock_48 (by decide) ?_
  refine tj_icmp_eq (tgt := 73) ok dX6_readBlock_49 (by decide) (fun hc => ?_) (fun hc => ?_)
  · rw [if_pos hc] at hf
    refine tj_sub (lv' := [(0, .inr (.inr (a0)))]) [0] rfl ?_
    exact (q_X6_readBlock_73 hrc hf).2 X g K ok nmx lev hK en
  · rw [if_neg hc] at hf
    exact (q_X6_readBlock_52 hrc hf).2 X g K ok nmx lev hK en
def b_X6_readBlock_41 (rc : Nat → Int32 → AH → Option (Int32 × AH)) (r13 : Nat → Int32 → Int32 → AH → Option (Int32 × AH)) (a0 : Nat) (a1 : Int32) (a2 : Int32) (h : AH) : Option (Int32 × AH) :=
  r13 a0 a1 (a2 + (1 : Int32)) h
set_option maxHeartbeats 4000000 in
set_option maxRecDepth 100000 in
theorem q_X6_readBlock_41 {hE : AH} {v : Int32} {rc : Nat → Int32 → AH → Option (Int32 × AH)} {kd : Nat} (hrc : ∀ {c0 : Nat} {c1 : Int32} {h h1 : AH} {v : Int32} , rc c0 c1 h = some (v, h1) → ∀ g : GT, CM g (kd) yX6_readBlock cX6_readBlock 3 (some .boolean) h [.inr (.inr (c0)), .inl (c1)] h1 (some (.inl (v)))) {r13 : Nat → Int32 → Int32 → AH → Option (Int32 × AH)} (hr13 : ∀ (b0 : Nat) (b1 : Int32) (b2 : Int32) (h : AH), r13 b0 b1 b2 h = some (v, hE) → JD cX6_readBlock 3 RX6 "readBlock" (some .boolean) (kd + 7) 13 [(0, .inr (.inr (b0))), (1, .inl (b1)), (2, .inl (b2))] [] h hE (some (.inl (v)))) {a0 : Nat} {a1 : Int32} {a2 : Int32} {h : AH} (hf : b_X6_readBlock_41 rc r13 a0 a1 a2 h = some (v, hE)) : JD cX6_readBlock 3 RX6 "readBlock" (some .boolean) (kd + 7) 41 [(0, .inr (.inr (a0))), (1, .inl (a1)), (2, .inl (a2))] [] h hE (some (.inl (v))) := by
  unfold b_X6_readBlock_41 at hf
  have J := hr13 _ _ _ _ hf
  have mE := J.1
  refine ⟨by omega, fun X g K ok nmx lev hK en => ?_⟩
  refine tj_iinc (lv' := [(0, .inr (.inr (a0))), (1, .inl (a1)), (2, .inl (a2 + (1 : Int32)))]) ok 2 dX6_readBlock_41 rfl (rfl) (by decide) rfl ?_
  refine tj_goto (tgt := 13) ok dX6_readBlock_44 (by decide) ?_
  exact J.2 X g K ok nmx lev hK en
def b_X6_readBlock_39 (rc : Nat → Int32 → AH → Option (Int32 × AH))  (h : AH) : Option (Int32 × AH) :=
  ok_z (0 : Int32) h
set_option maxHeartbeats 4000000 in
set_option maxRecDepth 100000 in
theorem q_X6_readBlock_39 {rc : Nat → Int32 → AH → Option (Int32 × AH)} {kd : Nat} (hrc : ∀ {c0 : Nat} {c1 : Int32} {h h1 : AH} {v : Int32} , rc c0 c1 h = some (v, h1) → ∀ g : GT, CM g (kd) yX6_readBlock cX6_readBlock 3 (some .boolean) h [.inr (.inr (c0)), .inl (c1)] h1 (some (.inl (v)))) {h hE : AH} {v : Int32} (hf : b_X6_readBlock_39 rc  h = some (v, hE)) : JD cX6_readBlock 3 RX6 "readBlock" (some .boolean) (kd + 7) 39 [] [] h hE (some (.inl (v))) := by
  unfold b_X6_readBlock_39 at hf
  have mE : hp_n h ≤ hp_n hE ∧ hp_s h ≤ hp_s hE := by obtain ⟨-, q⟩ := of_if hf; cases q; exact ⟨Nat.le_refl _, Nat.le_refl _⟩
  refine ⟨by omega, fun X g K ok nmx lev hK en => ?_⟩
  refine tj_iconst (v := 0) ok dX6_readBlock_39 (by decide) ?_
  exact tj_zreturn ok hf en dX6_readBlock_40
def b_X6_readBlock_32 (rc : Nat → Int32 → AH → Option (Int32 × AH)) (r13 : Nat → Int32 → Int32 → AH → Option (Int32 × AH)) (a0 : Nat) (a1 : Int32) (a2 : Int32) (h : AH) : Option (Int32 × AH) :=
  (ok_v h a0 6).bind fun x1 => (f_X6_readStatement rc a0 h).bind fun q2 => if q2.1 = 0 then b_X6_readBlock_39 rc q2.2 else b_X6_readBlock_41 rc r13 a0 a1 a2 q2.2
set_option maxHeartbeats 4000000 in
set_option maxRecDepth 100000 in
theorem q_X6_readBlock_32 {hE : AH} {v : Int32} {rc : Nat → Int32 → AH → Option (Int32 × AH)} {kd : Nat} (hrc : ∀ {c0 : Nat} {c1 : Int32} {h h1 : AH} {v : Int32} , rc c0 c1 h = some (v, h1) → ∀ g : GT, CM g (kd) yX6_readBlock cX6_readBlock 3 (some .boolean) h [.inr (.inr (c0)), .inl (c1)] h1 (some (.inl (v)))) {r13 : Nat → Int32 → Int32 → AH → Option (Int32 × AH)} (hr13 : ∀ (b0 : Nat) (b1 : Int32) (b2 : Int32) (h : AH), r13 b0 b1 b2 h = some (v, hE) → JD cX6_readBlock 3 RX6 "readBlock" (some .boolean) (kd + 7) 13 [(0, .inr (.inr (b0))), (1, .inl (b1)), (2, .inl (b2))] [] h hE (some (.inl (v)))) {a0 : Nat} {a1 : Int32} {a2 : Int32} {h : AH} (hf : b_X6_readBlock_32 rc r13 a0 a1 a2 h = some (v, hE)) : JD cX6_readBlock 3 RX6 "readBlock" (some .boolean) (kd + 7) 32 [(0, .inr (.inr (a0))), (1, .inl (a1)), (2, .inl (a2))] [] h hE (some (.inl (v))) := by
  unfold b_X6_readBlock_32 at hf
  obtain ⟨x1, e1, hf⟩ := bnd hf
  obtain ⟨⟨x2, h2⟩, e2, hf⟩ := bnd hf
  try dsimp only at hf
  have k2 := c_X6_readStatement (rc := rc) hrc e2
  have m2 := (k2 default_g).1
  have mE : hp_n h2 ≤ hp_n hE ∧ hp_s h2 ≤ hp_s hE := by
    by_cases hc : x2 = 0
    · rw [if_pos hc] at hf; exact (q_X6_readBlock_39 hrc hf).1
    · rw [if_neg hc] at hf; exact (q_X6_readBlock_41 hrc hr13 hf).1
  refine ⟨by omega, fun X g K ok nmx lev hK en => ?_⟩
  refine tj_aload_n ok 0 dX6_readBlock_32 rfl rfl ?_
  refine tj_callV (rest := ([] : List TV).map (vl g)) (as := []) ok lev (by omega) fcX6.1 (by decide) rfl (of_if e1).1 (k2 g) (CaX.of en (by omega)) kn_X6_readStatement wm_1132 wm_1133 wm_1134 (rs_ok (Nat.le_of_ble_eq_true rfl)) rfl rfl dX6_readBlock_33 ?_
  refine tj_if_ne (tgt := 41) ok dX6_readBlock_36 (by decide) (fun hc => ?_) (fun hc => ?_)
  · rw [if_neg hc] at hf
    exact (q_X6_readBlock_41 hrc hr13 hf).2 X g K ok nmx lev hK en
  · rw [if_pos hc] at hf
    refine tj_sub (lv' := []) [] rfl ?_
    exact (q_X6_readBlock_39 hrc hf).2 X g K ok nmx lev hK en
def b_X6_readBlock_20 (rc : Nat → Int32 → AH → Option (Int32 × AH)) (r13 : Nat → Int32 → Int32 → AH → Option (Int32 × AH)) (a0 : Nat) (a1 : Int32) (a2 : Int32) (h : AH) : Option (Int32 × AH) :=
  (g_r h a0 6 2).bind fun x1 => (g_i h x1 7 0).bind fun x2 => if x2 = (21 : Int32) then b_X6_readBlock_47 rc a0 a1 h else b_X6_readBlock_32 rc r13 a0 a1 a2 h
set_option maxHeartbeats 4000000 in
set_option maxRecDepth 100000 in
theorem q_X6_readBlock_20 {hE : AH} {v : Int32} {rc : Nat → Int32 → AH → Option (Int32 × AH)} {kd : Nat} (hrc : ∀ {c0 : Nat} {c1 : Int32} {h h1 : AH} {v : Int32} , rc c0 c1 h = some (v, h1) → ∀ g : GT, CM g (kd) yX6_readBlock cX6_readBlock 3 (some .boolean) h [.inr (.inr (c0)), .inl (c1)] h1 (some (.inl (v)))) {r13 : Nat → Int32 → Int32 → AH → Option (Int32 × AH)} (hr13 : ∀ (b0 : Nat) (b1 : Int32) (b2 : Int32) (h : AH), r13 b0 b1 b2 h = some (v, hE) → JD cX6_readBlock 3 RX6 "readBlock" (some .boolean) (kd + 7) 13 [(0, .inr (.inr (b0))), (1, .inl (b1)), (2, .inl (b2))] [] h hE (some (.inl (v)))) {a0 : Nat} {a1 : Int32} {a2 : Int32} {h : AH} (hf : b_X6_readBlock_20 rc r13 a0 a1 a2 h = some (v, hE)) : JD cX6_readBlock 3 RX6 "readBlock" (some .boolean) (kd + 7) 20 [(0, .inr (.inr (a0))), (1, .inl (a1)), (2, .inl (a2))] [] h hE (some (.inl (v))) := by
  unfold b_X6_readBlock_20 at hf
  obtain ⟨x1, e1, hf⟩ := bnd hf
  obtain ⟨x2, e2, hf⟩ := bnd hf
  have mE : hp_n h ≤ hp_n hE ∧ hp_s h ≤ hp_s hE := by
    by_cases hc : x2 = (21 : Int32)
    · rw [if_pos hc] at hf; exact (q_X6_readBlock_47 hrc hf).1
    · rw [if_neg hc] at hf; exact (q_X6_readBlock_32 hrc hr13 hf).1
  refine ⟨by omega, fun X g K ok nmx lev hK en => ?_⟩
  refine tj_aload_n ok 0 dX6_readBlock_20 rfl rfl ?_
  refine tj_getR (k := 2) ok fcX6 (by decide) wm_132 rfl (Or.inl ⟨_, rfl⟩) dX6_readBlock_21 e1 ?_
  refine tj_getI (k := 0) ok fcX7 (by decide) wm_1062 rfl (Or.inl rfl) dX6_readBlock_24 e2 ?_
  refine tj_bipush (v := 21) ok dX6_readBlock_27 (by decide) ?_
  refine tj_icmp_eq (tgt := 47) ok dX6_readBlock_29 (by decide) (fun hc => ?_) (fun hc => ?_)
  · rw [if_pos hc] at hf
    refine tj_sub (lv' := [(0, .inr (.inr (a0))), (1, .inl (a1))]) [0, 1] rfl ?_
    exact (q_X6_readBlock_47 hrc hf).2 X g K ok nmx lev hK en
  · rw [if_neg hc] at hf
    exact (q_X6_readBlock_32 hrc hr13 hf).2 X g K ok nmx lev hK en
def b_X6_readBlock_13 (rc : Nat → Int32 → AH → Option (Int32 × AH)) (r13 : Nat → Int32 → Int32 → AH → Option (Int32 × AH)) (a0 : Nat) (a1 : Int32) (a2 : Int32) (h : AH) : Option (Int32 × AH) :=
  if (1000 : Int32) ≤ a2 then b_X6_readBlock_47 rc a0 a1 h else b_X6_readBlock_20 rc r13 a0 a1 a2 h
set_option maxHeartbeats 4000000 in
set_option maxRecDepth 100000 in
theorem q_X6_readBlock_13 {hE : AH} {v : Int32} {rc : Nat → Int32 → AH → Option (Int32 × AH)} {kd : Nat} (hrc : ∀ {c0 : Nat} {c1 : Int32} {h h1 : AH} {v : Int32} , rc c0 c1 h = some (v, h1) → ∀ g : GT, CM g (kd) yX6_readBlock cX6_readBlock 3 (some .boolean) h [.inr (.inr (c0)), .inl (c1)] h1 (some (.inl (v)))) {r13 : Nat → Int32 → Int32 → AH → Option (Int32 × AH)} (hr13 : ∀ (b0 : Nat) (b1 : Int32) (b2 : Int32) (h : AH), r13 b0 b1 b2 h = some (v, hE) → JD cX6_readBlock 3 RX6 "readBlock" (some .boolean) (kd + 7) 13 [(0, .inr (.inr (b0))), (1, .inl (b1)), (2, .inl (b2))] [] h hE (some (.inl (v)))) {a0 : Nat} {a1 : Int32} {a2 : Int32} {h : AH} (hf : b_X6_readBlock_13 rc r13 a0 a1 a2 h = some (v, hE)) : JD cX6_readBlock 3 RX6 "readBlock" (some .boolean) (kd + 7) 13 [(0, .inr (.inr (a0))), (1, .inl (a1)), (2, .inl (a2))] [] h hE (some (.inl (v))) := by
  unfold b_X6_readBlock_13 at hf
  have mE : hp_n h ≤ hp_n hE ∧ hp_s h ≤ hp_s hE := by
    by_cases hc : (1000 : Int32) ≤ a2
    · rw [if_pos hc] at hf; exact (q_X6_readBlock_47 hrc hf).1
    · rw [if_neg hc] at hf; exact (q_X6_readBlock_20 hrc hr13 hf).1
  refine ⟨by omega, fun X g K ok nmx lev hK en => ?_⟩
  refine tj_iload_n ok 2 dX6_readBlock_13 rfl rfl ?_
  refine tj_sipush (v := 1000) ok dX6_readBlock_14 (by decide) ?_
  refine tj_icmp_ge (tgt := 47) ok dX6_readBlock_17 (by decide) (fun hc => ?_) (fun hc => ?_)
  · rw [if_pos hc] at hf
    refine tj_sub (lv' := [(0, .inr (.inr (a0))), (1, .inl (a1))]) [0, 1] rfl ?_
    exact (q_X6_readBlock_47 hrc hf).2 X g K ok nmx lev hK en
  · rw [if_neg hc] at hf
    exact (q_X6_readBlock_20 hrc hr13 hf).2 X g K ok nmx lev hK en
def l_X6_readBlock_13 (rc : Nat → Int32 → AH → Option (Int32 × AH)) : Nat → Nat → Int32 → Int32 → AH → Option (Int32 × AH)
  | 0 => fun _ _ _ _ => none
  | n + 1 => fun a0 a1 a2 h => b_X6_readBlock_13 rc (l_X6_readBlock_13 rc n) a0 a1 a2 h
theorem ql_X6_readBlock_13 {rc : Nat → Int32 → AH → Option (Int32 × AH)} {kd : Nat} (hrc : ∀ {c0 : Nat} {c1 : Int32} {h h1 : AH} {v : Int32} , rc c0 c1 h = some (v, h1) → ∀ g : GT, CM g (kd) yX6_readBlock cX6_readBlock 3 (some .boolean) h [.inr (.inr (c0)), .inl (c1)] h1 (some (.inl (v)))) {n : Nat} {a0 : Nat} {a1 : Int32} {a2 : Int32} {h hE : AH} {v : Int32} (hf : l_X6_readBlock_13 rc n a0 a1 a2 h = some (v, hE)) : JD cX6_readBlock 3 RX6 "readBlock" (some .boolean) (kd + 7) 13 [(0, .inr (.inr (a0))), (1, .inl (a1)), (2, .inl (a2))] [] h hE (some (.inl (v))) := by
  induction n generalizing a0 a1 a2 h with
  | zero => cases hf
  | succ n ih => exact q_X6_readBlock_13 hrc (fun _ _ _ _ hf => ih hf) hf
def b_X6_readBlock_11 (rc : Nat → Int32 → AH → Option (Int32 × AH)) (a0 : Nat) (a1 : Int32) (h : AH) : Option (Int32 × AH) :=
  l_X6_readBlock_13 rc fu_ a0 a1 (0 : Int32) h
set_option maxHeartbeats 4000000 in
set_option maxRecDepth 100000 in
theorem q_X6_readBlock_11 {rc : Nat → Int32 → AH → Option (Int32 × AH)} {kd : Nat} (hrc : ∀ {c0 : Nat} {c1 : Int32} {h h1 : AH} {v : Int32} , rc c0 c1 h = some (v, h1) → ∀ g : GT, CM g (kd) yX6_readBlock cX6_readBlock 3 (some .boolean) h [.inr (.inr (c0)), .inl (c1)] h1 (some (.inl (v)))) {a0 : Nat} {a1 : Int32} {h hE : AH} {v : Int32} (hf : b_X6_readBlock_11 rc a0 a1 h = some (v, hE)) : JD cX6_readBlock 3 RX6 "readBlock" (some .boolean) (kd + 7) 11 [(0, .inr (.inr (a0))), (1, .inl (a1))] [] h hE (some (.inl (v))) := by
  unfold b_X6_readBlock_11 at hf
  have J := ql_X6_readBlock_13 hrc hf
  have mE := J.1
  refine ⟨by omega, fun X g K ok nmx lev hK en => ?_⟩
  refine tj_iconst (v := 0) ok dX6_readBlock_11 (by decide) ?_
  refine tj_istore_n (lv' := [(0, .inr (.inr (a0))), (1, .inl (a1)), (2, .inl ((0 : Int32)))]) ok dX6_readBlock_12 rfl (by decide) rfl ?_
  exact J.2 X g K ok nmx lev hK en
def b_X6_readBlock_9 (rc : Nat → Int32 → AH → Option (Int32 × AH))  (h : AH) : Option (Int32 × AH) :=
  ok_z (0 : Int32) h
set_option maxHeartbeats 4000000 in
set_option maxRecDepth 100000 in
theorem q_X6_readBlock_9 {rc : Nat → Int32 → AH → Option (Int32 × AH)} {kd : Nat} (hrc : ∀ {c0 : Nat} {c1 : Int32} {h h1 : AH} {v : Int32} , rc c0 c1 h = some (v, h1) → ∀ g : GT, CM g (kd) yX6_readBlock cX6_readBlock 3 (some .boolean) h [.inr (.inr (c0)), .inl (c1)] h1 (some (.inl (v)))) {h hE : AH} {v : Int32} (hf : b_X6_readBlock_9 rc  h = some (v, hE)) : JD cX6_readBlock 3 RX6 "readBlock" (some .boolean) (kd + 7) 9 [] [] h hE (some (.inl (v))) := by
  unfold b_X6_readBlock_9 at hf
  have mE : hp_n h ≤ hp_n hE ∧ hp_s h ≤ hp_s hE := by obtain ⟨-, q⟩ := of_if hf; cases q; exact ⟨Nat.le_refl _, Nat.le_refl _⟩
  refine ⟨by omega, fun X g K ok nmx lev hK en => ?_⟩
  refine tj_iconst (v := 0) ok dX6_readBlock_9 (by decide) ?_
  exact tj_zreturn ok hf en dX6_readBlock_10
def b_X6_readBlock_0 (rc : Nat → Int32 → AH → Option (Int32 × AH)) (a0 : Nat) (a1 : Int32) (h : AH) : Option (Int32 × AH) :=
  (ok_v h a0 6).bind fun x1 => (f_X6_pass a0 (20 : Int32) h).bind fun q2 => if q2.1 = 0 then b_X6_readBlock_9 rc q2.2 else b_X6_readBlock_11 rc a0 a1 q2.2
set_option maxHeartbeats 4000000 in
set_option maxRecDepth 100000 in
theorem q_X6_readBlock_0 {rc : Nat → Int32 → AH → Option (Int32 × AH)} {kd : Nat} (hrc : ∀ {c0 : Nat} {c1 : Int32} {h h1 : AH} {v : Int32} , rc c0 c1 h = some (v, h1) → ∀ g : GT, CM g (kd) yX6_readBlock cX6_readBlock 3 (some .boolean) h [.inr (.inr (c0)), .inl (c1)] h1 (some (.inl (v)))) {a0 : Nat} {a1 : Int32} {h hE : AH} {v : Int32} (hf : b_X6_readBlock_0 rc a0 a1 h = some (v, hE)) : JD cX6_readBlock 3 RX6 "readBlock" (some .boolean) (kd + 7) 0 [(0, .inr (.inr (a0))), (1, .inl (a1))] [] h hE (some (.inl (v))) := by
  unfold b_X6_readBlock_0 at hf
  obtain ⟨x1, e1, hf⟩ := bnd hf
  obtain ⟨⟨x2, h2⟩, e2, hf⟩ := bnd hf
  try dsimp only at hf
  have k2 := c_X6_pass e2
  have m2 := (k2 default_g).1
  have mE : hp_n h2 ≤ hp_n hE ∧ hp_s h2 ≤ hp_s hE := by
    by_cases hc : x2 = 0
    · rw [if_pos hc] at hf; exact (q_X6_readBlock_9 hrc hf).1
    · rw [if_neg hc] at hf; exact (q_X6_readBlock_11 hrc hf).1
  refine ⟨by omega, fun X g K ok nmx lev hK en => ?_⟩
  refine tj_aload_n ok 0 dX6_readBlock_0 rfl rfl ?_
  refine tj_bipush (v := 20) ok dX6_readBlock_1 (by decide) ?_
  refine tj_callV (rest := ([] : List TV).map (vl g)) (as := [.inl ((20 : Int32))]) ok lev (by omega) fcX6.1 (by decide) rfl (of_if e1).1 (k2 g) (CaX.of en (by omega)) kn_X6_pass wm_1067 wm_1068 wm_1069 (rs_ok (Nat.le_of_ble_eq_true rfl)) rfl rfl dX6_readBlock_3 ?_
  refine tj_if_ne (tgt := 11) ok dX6_readBlock_6 (by decide) (fun hc => ?_) (fun hc => ?_)
  · rw [if_neg hc] at hf
    exact (q_X6_readBlock_11 hrc hf).2 X g K ok nmx lev hK en
  · rw [if_pos hc] at hf
    refine tj_sub (lv' := []) [] rfl ?_
    exact (q_X6_readBlock_9 hrc hf).2 X g K ok nmx lev hK en
def f_X6_readBlock_o (rc : Nat → Int32 → AH → Option (Int32 × AH)) (a0 : Nat) (a1 : Int32) (h : AH) : Option (Int32 × AH) := b_X6_readBlock_0 rc  a0 a1 h
theorem c_X6_readBlock_o {rc : Nat → Int32 → AH → Option (Int32 × AH)} {kd : Nat} (hrc : ∀ {c0 : Nat} {c1 : Int32} {h h1 : AH} {v : Int32} , rc c0 c1 h = some (v, h1) → ∀ g : GT, CM g (kd) yX6_readBlock cX6_readBlock 3 (some .boolean) h [.inr (.inr (c0)), .inl (c1)] h1 (some (.inl (v)))) {a0 : Nat} {a1 : Int32} {h hE : AH} {v : Int32} (hf : f_X6_readBlock_o rc a0 a1 h = some (v, hE)) : ∀ g : GT, CM g (kd + 7) yX6_readBlock cX6_readBlock 3 (some .boolean) h [.inr (.inr (a0)), .inl (a1)] hE (some (.inl (v))) :=
  CM.ofJ (by decide) (by show _ ≤ 3; exact Nat.le_of_ble_eq_true rfl) (q_X6_readBlock_0 hrc hf)
def f_X6_readBlock : Nat → Nat → Int32 → AH → Option (Int32 × AH)
  | 0 => fun _ _ _ => none
  | d + 1 => fun a0 a1 h => f_X6_readBlock_o (f_X6_readBlock d) a0 a1 h
theorem c_X6_readBlock (d : Nat) : ∀ {c0 : Nat} {c1 : Int32} {h h1 : AH} {v : Int32} , f_X6_readBlock d c0 c1 h = some (v, h1) → ∀ g : GT, CM g (7 * d) yX6_readBlock cX6_readBlock 3 (some .boolean) h [.inr (.inr (c0)), .inl (c1)] h1 (some (.inl (v))) := by
  induction d with
  | zero =>
    intro a0 a1 h hE v hf g
    cases hf
  | succ d ih =>
    intro a0 a1 h hE v hf g
    have z := c_X6_readBlock_o (rc := f_X6_readBlock d) ih hf g
    rw [show 7 * (d + 1) = 7 * d + 7 by omega]
    exact z
/-! ===== LitmusHouse$Reader.readDeclaration(I)Z ===== -/
def b_X6_readDeclaration_122 (a0 : Nat) (h : AH) : Option (Int32 × AH) :=
  (ok_v h a0 6).bind fun x1 => (f_X6_pass a0 (15 : Int32) h).bind fun q2 => ok_z q2.1 q2.2
set_option maxHeartbeats 4000000 in
set_option maxRecDepth 100000 in
theorem q_X6_readDeclaration_122 {a0 : Nat} {h hE : AH} {v : Int32} (hf : b_X6_readDeclaration_122 a0 h = some (v, hE)) : JD cX6_readDeclaration 4 RX6 "readDeclaration" (some .boolean) (4) 122 [(0, .inr (.inr (a0)))] [] h hE (some (.inl (v))) := by
  unfold b_X6_readDeclaration_122 at hf
  obtain ⟨x1, e1, hf⟩ := bnd hf
  obtain ⟨⟨x2, h2⟩, e2, hf⟩ := bnd hf
  try dsimp only at hf
  have k2 := c_X6_pass e2
  have m2 := (k2 default_g).1
  have mE : hp_n h2 ≤ hp_n hE ∧ hp_s h2 ≤ hp_s hE := by obtain ⟨-, q⟩ := of_if hf; cases q; exact ⟨Nat.le_refl _, Nat.le_refl _⟩
  refine ⟨by omega, fun X g K ok nmx lev hK en => ?_⟩
  refine tj_aload_n ok 0 dX6_readDeclaration_122 rfl rfl ?_
  refine tj_bipush (v := 15) ok dX6_readDeclaration_123 (by decide) ?_
  refine tj_callV (rest := ([] : List TV).map (vl g)) (as := [.inl ((15 : Int32))]) ok lev (by omega) fcX6.1 (by decide) rfl (of_if e1).1 (k2 g) (CaX.of en (by omega)) kn_X6_pass wm_1067 wm_1068 wm_1069 (rs_ok (Nat.le_of_ble_eq_true rfl)) rfl rfl dX6_readDeclaration_125 ?_
  exact tj_zreturn ok hf en dX6_readDeclaration_128
def b_X6_readDeclaration_99 (r19 : Nat → Int32 → Int32 → AH → Option (Int32 × AH)) (a0 : Nat) (a1 : Int32) (a2 : Int32) (a3 : Int32) (h : AH) : Option (Int32 × AH) :=
  (g_r h a0 6 4).bind fun x1 => (g_r h x1 5 1).bind fun x2 => (s_i h x2 a3 a1).bind fun h3 => (g_r h3 a0 6 2).bind fun x4 => (ok_v h3 x4 7).bind fun x5 => (f_X7_advance x4 h3).bind fun h6 => r19 a0 a1 (a2 + (1 : Int32)) h6
set_option maxHeartbeats 4000000 in
set_option maxRecDepth 100000 in
theorem q_X6_readDeclaration_99 {hE : AH} {v : Int32} {r19 : Nat → Int32 → Int32 → AH → Option (Int32 × AH)} (hr19 : ∀ (b0 : Nat) (b1 : Int32) (b2 : Int32) (h : AH), r19 b0 b1 b2 h = some (v, hE) → JD cX6_readDeclaration 4 RX6 "readDeclaration" (some .boolean) (4) 19 [(0, .inr (.inr (b0))), (1, .inl (b1)), (2, .inl (b2))] [] h hE (some (.inl (v)))) {a0 : Nat} {a1 : Int32} {a2 : Int32} {a3 : Int32} {h : AH} (hf : b_X6_readDeclaration_99 r19 a0 a1 a2 a3 h = some (v, hE)) : JD cX6_readDeclaration 4 RX6 "readDeclaration" (some .boolean) (4) 99 [(0, .inr (.inr (a0))), (1, .inl (a1)), (2, .inl (a2)), (3, .inl (a3))] [] h hE (some (.inl (v))) := by
  unfold b_X6_readDeclaration_99 at hf
  obtain ⟨x1, e1, hf⟩ := bnd hf
  obtain ⟨x2, e2, hf⟩ := bnd hf
  obtain ⟨h3, e3, hf⟩ := bnd hf
  have m3 := nn_si e3
  obtain ⟨x4, e4, hf⟩ := bnd hf
  obtain ⟨x5, e5, hf⟩ := bnd hf
  obtain ⟨h6, e6, hf⟩ := bnd hf
  have k6 := c_X7_advance e6
  have m6 := (k6 default_g).1
  have J := hr19 _ _ _ _ hf
  have mE := J.1
  refine ⟨by omega, fun X g K ok nmx lev hK en => ?_⟩
  refine tj_aload_n ok 0 dX6_readDeclaration_99 rfl rfl ?_
  refine tj_getR (k := 4) ok fcX6 (by decide) wm_134 rfl (Or.inl ⟨_, rfl⟩) dX6_readDeclaration_100 e1 ?_
  refine tj_getR (k := 1) ok fcX5 (by decide) wm_1044 rfl (Or.inr ⟨_, rfl⟩) dX6_readDeclaration_103 e2 ?_
  refine tj_iload_n ok 3 dX6_readDeclaration_106 rfl rfl ?_
  refine tj_iload_n ok 1 dX6_readDeclaration_107 rfl rfl ?_
  refine tj_iastore ok dX6_readDeclaration_108 e3 ?_
  refine tj_aload_n ok 0 dX6_readDeclaration_109 rfl rfl ?_
  refine tj_getR (k := 2) ok fcX6 (by decide) wm_132 rfl (Or.inl ⟨_, rfl⟩) dX6_readDeclaration_110 e4 ?_
  refine tj_callV (rest := ([] : List TV).map (vl g)) (as := []) ok lev (by omega) fcX7.1 (by decide) rfl (of_if e5).1 (k6 g) (CaX.of en (by omega)) kn_X7_advance wm_1060 wm_1025 wm_1026 (rs_ok (Nat.le_of_ble_eq_true rfl)) rfl rfl dX6_readDeclaration_113 ?_
  refine tj_iinc (lv' := [(0, .inr (.inr (a0))), (1, .inl (a1)), (2, .inl (a2 + (1 : Int32))), (3, .inl (a3))]) ok 2 dX6_readDeclaration_116 rfl (rfl) (by decide) rfl ?_
  refine tj_goto (tgt := 19) ok dX6_readDeclaration_119 (by decide) ?_
  refine tj_sub (lv' := [(0, .inr (.inr (a0))), (1, .inl (a1)), (2, .inl (a2 + (1 : Int32)))]) [0, 1, 2] rfl ?_
  exact J.2 X g K ok nmx lev hK en
def b_X6_readDeclaration_86 (a0 : Nat) (h : AH) : Option (Int32 × AH) :=
  (g_r h a0 6 2).bind fun x1 => (g_i h x1 7 2).bind fun x2 => (ok_v h a0 6).bind fun x3 => (f_X6_refuse a0 (4 : Int32) x2 h).bind fun q4 => ok_z q4.1 q4.2
set_option maxHeartbeats 4000000 in
set_option maxRecDepth 100000 in
theorem q_X6_readDeclaration_86 {a0 : Nat} {h hE : AH} {v : Int32} (hf : b_X6_readDeclaration_86 a0 h = some (v, hE)) : JD cX6_readDeclaration 4 RX6 "readDeclaration" (some .boolean) (4) 86 [(0, .inr (.inr (a0)))] [] h hE (some (.inl (v))) := by
  unfold b_X6_readDeclaration_86 at hf
  obtain ⟨x1, e1, hf⟩ := bnd hf
  obtain ⟨x2, e2, hf⟩ := bnd hf
  obtain ⟨x3, e3, hf⟩ := bnd hf
  obtain ⟨⟨x4, h4⟩, e4, hf⟩ := bnd hf
  try dsimp only at hf
  have k4 := c_X6_refuse e4
  have m4 := (k4 default_g).1
  have mE : hp_n h4 ≤ hp_n hE ∧ hp_s h4 ≤ hp_s hE := by obtain ⟨-, q⟩ := of_if hf; cases q; exact ⟨Nat.le_refl _, Nat.le_refl _⟩
  refine ⟨by omega, fun X g K ok nmx lev hK en => ?_⟩
  refine tj_aload_n ok 0 dX6_readDeclaration_86 rfl rfl ?_
  refine tj_iconst (v := 4) ok dX6_readDeclaration_87 (by decide) ?_
  refine tj_aload_n ok 0 dX6_readDeclaration_88 rfl rfl ?_
  refine tj_getR (k := 2) ok fcX6 (by decide) wm_132 rfl (Or.inl ⟨_, rfl⟩) dX6_readDeclaration_89 e1 ?_
  refine tj_getI (k := 2) ok fcX7 (by decide) wm_1040 rfl (Or.inl rfl) dX6_readDeclaration_92 e2 ?_
  refine tj_callV (rest := ([] : List TV).map (vl g)) (as := [.inl ((4 : Int32)), .inl (x2)]) ok lev (by omega) fcX6.1 (by decide) rfl (of_if e3).1 (k4 g) (CaX.of en (by omega)) kn_X6_refuse wm_1041 wm_1042 wm_1043 (rs_ok (Nat.le_of_ble_eq_true rfl)) rfl rfl dX6_readDeclaration_95 ?_
  exact tj_zreturn ok hf en dX6_readDeclaration_98
def b_X6_readDeclaration_75 (r19 : Nat → Int32 → Int32 → AH → Option (Int32 × AH)) (a0 : Nat) (a1 : Int32) (a2 : Int32) (a3 : Int32) (h : AH) : Option (Int32 × AH) :=
  (g_r h a0 6 4).bind fun x1 => (ok_v h x1 5).bind fun x2 => (f_X5_declaredCells x1 h).bind fun q3 => if q3.1 < (5 : Int32) then b_X6_readDeclaration_99 r19 a0 a1 a2 a3 q3.2 else b_X6_readDeclaration_86 a0 q3.2
set_option maxHeartbeats 4000000 in
set_option maxRecDepth 100000 in
theorem q_X6_readDeclaration_75 {hE : AH} {v : Int32} {r19 : Nat → Int32 → Int32 → AH → Option (Int32 × AH)} (hr19 : ∀ (b0 : Nat) (b1 : Int32) (b2 : Int32) (h : AH), r19 b0 b1 b2 h = some (v, hE) → JD cX6_readDeclaration 4 RX6 "readDeclaration" (some .boolean) (4) 19 [(0, .inr (.inr (b0))), (1, .inl (b1)), (2, .inl (b2))] [] h hE (some (.inl (v)))) {a0 : Nat} {a1 : Int32} {a2 : Int32} {a3 : Int32} {h : AH} (hf : b_X6_readDeclaration_75 r19 a0 a1 a2 a3 h = some (v, hE)) : JD cX6_readDeclaration 4 RX6 "readDeclaration" (some .boolean) (4) 75 [(0, .inr (.inr (a0))), (1, .inl (a1)), (2, .inl (a2)), (3, .inl (a3))] [] h hE (some (.inl (v))) := by
  unfold b_X6_readDeclaration_75 at hf
  obtain ⟨x1, e1, hf⟩ := bnd hf
  obtain ⟨x2, e2, hf⟩ := bnd hf
  obtain ⟨⟨x3, h3⟩, e3, hf⟩ := bnd hf
  try dsimp only at hf
  have k3 := c_X5_declaredCells e3
  have m3 := (k3 default_g).1
  have mE : hp_n h3 ≤ hp_n hE ∧ hp_s h3 ≤ hp_s hE := by
    by_cases hc : x3 < (5 : Int32)
    · rw [if_pos hc] at hf; exact (q_X6_readDeclaration_99 hr19 hf).1
    · rw [if_neg hc] at hf; exact (q_X6_readDeclaration_86 hf).1
  refine ⟨by omega, fun X g K ok nmx lev hK en => ?_⟩
  refine tj_aload_n ok 0 dX6_readDeclaration_75 rfl rfl ?_
  refine tj_getR (k := 4) ok fcX6 (by decide) wm_134 rfl (Or.inl ⟨_, rfl⟩) dX6_readDeclaration_76 e1 ?_
  refine tj_callV (rest := ([] : List TV).map (vl g)) (as := []) ok lev (by omega) fcX5.1 (by decide) rfl (of_if e2).1 (k3 g) (CaX.of en (by omega)) kn_X5_declaredCells wm_1136 wm_1137 wm_1138 (rs_ok (Nat.le_of_ble_eq_true rfl)) rfl rfl dX6_readDeclaration_79 ?_
  refine tj_iconst (v := 5) ok dX6_readDeclaration_82 (by decide) ?_
  refine tj_icmp_lt (tgt := 99) ok dX6_readDeclaration_83 (by decide) (fun hc => ?_) (fun hc => ?_)
  · rw [if_pos hc] at hf
    exact (q_X6_readDeclaration_99 hr19 hf).2 X g K ok nmx lev hK en
  · rw [if_neg hc] at hf
    refine tj_sub (lv' := [(0, .inr (.inr (a0)))]) [0] rfl ?_
    exact (q_X6_readDeclaration_86 hf).2 X g K ok nmx lev hK en
def b_X6_readDeclaration_62 (a0 : Nat) (h : AH) : Option (Int32 × AH) :=
  (g_r h a0 6 2).bind fun x1 => (g_i h x1 7 2).bind fun x2 => (ok_v h a0 6).bind fun x3 => (f_X6_refuse a0 (2 : Int32) x2 h).bind fun q4 => ok_z q4.1 q4.2
set_option maxHeartbeats 4000000 in
set_option maxRecDepth 100000 in
theorem q_X6_readDeclaration_62 {a0 : Nat} {h hE : AH} {v : Int32} (hf : b_X6_readDeclaration_62 a0 h = some (v, hE)) : JD cX6_readDeclaration 4 RX6 "readDeclaration" (some .boolean) (4) 62 [(0, .inr (.inr (a0)))] [] h hE (some (.inl (v))) := by
  unfold b_X6_readDeclaration_62 at hf
  obtain ⟨x1, e1, hf⟩ := bnd hf
  obtain ⟨x2, e2, hf⟩ := bnd hf
  obtain ⟨x3, e3, hf⟩ := bnd hf
  obtain ⟨⟨x4, h4⟩, e4, hf⟩ := bnd hf
  try dsimp only at hf
  have k4 := c_X6_refuse e4
  have m4 := (k4 default_g).1
  have mE : hp_n h4 ≤ hp_n hE ∧ hp_s h4 ≤ hp_s hE := by obtain ⟨-, q⟩ := of_if hf; cases q; exact ⟨Nat.le_refl _, Nat.le_refl _⟩
  refine ⟨by omega, fun X g K ok nmx lev hK en => ?_⟩
  refine tj_aload_n ok 0 dX6_readDeclaration_62 rfl rfl ?_
  refine tj_iconst (v := 2) ok dX6_readDeclaration_63 (by decide) ?_
  refine tj_aload_n ok 0 dX6_readDeclaration_64 rfl rfl ?_
  refine tj_getR (k := 2) ok fcX6 (by decide) wm_132 rfl (Or.inl ⟨_, rfl⟩) dX6_readDeclaration_65 e1 ?_
  refine tj_getI (k := 2) ok fcX7 (by decide) wm_1040 rfl (Or.inl rfl) dX6_readDeclaration_68 e2 ?_
  refine tj_callV (rest := ([] : List TV).map (vl g)) (as := [.inl ((2 : Int32)), .inl (x2)]) ok lev (by omega) fcX6.1 (by decide) rfl (of_if e3).1 (k4 g) (CaX.of en (by omega)) kn_X6_refuse wm_1041 wm_1042 wm_1043 (rs_ok (Nat.le_of_ble_eq_true rfl)) rfl rfl dX6_readDeclaration_71 ?_
  exact tj_zreturn ok hf en dX6_readDeclaration_74
def b_X6_readDeclaration_38 (r19 : Nat → Int32 → Int32 → AH → Option (Int32 × AH)) (a0 : Nat) (a1 : Int32) (a2 : Int32) (h : AH) : Option (Int32 × AH) :=
  (g_r h a0 6 2).bind fun x1 => (g_i h x1 7 1).bind fun x2 => (g_r h a0 6 4).bind fun x3 => (g_r h x3 5 1).bind fun x4 => (l_i h x4 (x2 &&& (7 : Int32))).bind fun x5 => if x5 = (-1 : Int32) then b_X6_readDeclaration_75 r19 a0 a1 a2 (x2 &&& (7 : Int32)) h else b_X6_readDeclaration_62 a0 h
set_option maxHeartbeats 4000000 in
set_option maxRecDepth 100000 in
theorem q_X6_readDeclaration_38 {hE : AH} {v : Int32} {r19 : Nat → Int32 → Int32 → AH → Option (Int32 × AH)} (hr19 : ∀ (b0 : Nat) (b1 : Int32) (b2 : Int32) (h : AH), r19 b0 b1 b2 h = some (v, hE) → JD cX6_readDeclaration 4 RX6 "readDeclaration" (some .boolean) (4) 19 [(0, .inr (.inr (b0))), (1, .inl (b1)), (2, .inl (b2))] [] h hE (some (.inl (v)))) {a0 : Nat} {a1 : Int32} {a2 : Int32} {h : AH} (hf : b_X6_readDeclaration_38 r19 a0 a1 a2 h = some (v, hE)) : JD cX6_readDeclaration 4 RX6 "readDeclaration" (some .boolean) (4) 38 [(0, .inr (.inr (a0))), (1, .inl (a1)), (2, .inl (a2))] [] h hE (some (.inl (v))) := by
  unfold b_X6_readDeclaration_38 at hf
  obtain ⟨x1, e1, hf⟩ := bnd hf
  obtain ⟨x2, e2, hf⟩ := bnd hf
  obtain ⟨x3, e3, hf⟩ := bnd hf
  obtain ⟨x4, e4, hf⟩ := bnd hf
  obtain ⟨x5, e5, hf⟩ := bnd hf
  have mE : hp_n h ≤ hp_n hE ∧ hp_s h ≤ hp_s hE := by
    by_cases hc : x5 = (-1 : Int32)
    · rw [if_pos hc] at hf; exact (q_X6_readDeclaration_75 hr19 hf).1
    · rw [if_neg hc] at hf; exact (q_X6_readDeclaration_62 hf).1
  refine ⟨by omega, fun X g K ok nmx lev hK en => ?_⟩
  refine tj_aload_n ok 0 dX6_readDeclaration_38 rfl rfl ?_
  refine tj_getR (k := 2) ok fcX6 (by decide) wm_132 rfl (Or.inl ⟨_, rfl⟩) dX6_readDeclaration_39 e1 ?_
  refine tj_getI (k := 1) ok fcX7 (by decide) wm_1045 rfl (Or.inl rfl) dX6_readDeclaration_42 e2 ?_
  refine tj_bipush (v := 7) ok dX6_readDeclaration_45 (by decide) ?_
  refine tj_iand ok dX6_readDeclaration_47 ?_
  refine tj_istore_n (lv' := [(0, .inr (.inr (a0))), (1, .inl (a1)), (2, .inl (a2)), (3, .inl (x2 &&& (7 : Int32)))]) ok dX6_readDeclaration_48 rfl (by decide) rfl ?_
  refine tj_aload_n ok 0 dX6_readDeclaration_49 rfl rfl ?_
  refine tj_getR (k := 4) ok fcX6 (by decide) wm_134 rfl (Or.inl ⟨_, rfl⟩) dX6_readDeclaration_50 e3 ?_
  refine tj_getR (k := 1) ok fcX5 (by decide) wm_1044 rfl (Or.inr ⟨_, rfl⟩) dX6_readDeclaration_53 e4 ?_
  refine tj_iload_n ok 3 dX6_readDeclaration_56 rfl rfl ?_
  refine tj_iaload ok dX6_readDeclaration_57 e5 ?_
  refine tj_iconst (v := -1) ok dX6_readDeclaration_58 (by decide) ?_
  refine tj_icmp_eq (tgt := 75) ok dX6_readDeclaration_59 (by decide) (fun hc => ?_) (fun hc => ?_)
  · rw [if_pos hc] at hf
    exact (q_X6_readDeclaration_75 hr19 hf).2 X g K ok nmx lev hK en
  · rw [if_neg hc] at hf
    refine tj_sub (lv' := [(0, .inr (.inr (a0)))]) [0] rfl ?_
    exact (q_X6_readDeclaration_62 hf).2 X g K ok nmx lev hK en
def b_X6_readDeclaration_26 (r19 : Nat → Int32 → Int32 → AH → Option (Int32 × AH)) (a0 : Nat) (a1 : Int32) (a2 : Int32) (h : AH) : Option (Int32 × AH) :=
  (g_r h a0 6 2).bind fun x1 => (g_i h x1 7 0).bind fun x2 => if x2 = (11 : Int32) then b_X6_readDeclaration_38 r19 a0 a1 a2 h else b_X6_readDeclaration_122 a0 h
set_option maxHeartbeats 4000000 in
set_option maxRecDepth 100000 in
theorem q_X6_readDeclaration_26 {hE : AH} {v : Int32} {r19 : Nat → Int32 → Int32 → AH → Option (Int32 × AH)} (hr19 : ∀ (b0 : Nat) (b1 : Int32) (b2 : Int32) (h : AH), r19 b0 b1 b2 h = some (v, hE) → JD cX6_readDeclaration 4 RX6 "readDeclaration" (some .boolean) (4) 19 [(0, .inr (.inr (b0))), (1, .inl (b1)), (2, .inl (b2))] [] h hE (some (.inl (v)))) {a0 : Nat} {a1 : Int32} {a2 : Int32} {h : AH} (hf : b_X6_readDeclaration_26 r19 a0 a1 a2 h = some (v, hE)) : JD cX6_readDeclaration 4 RX6 "readDeclaration" (some .boolean) (4) 26 [(0, .inr (.inr (a0))), (1, .inl (a1)), (2, .inl (a2))] [] h hE (some (.inl (v))) := by
  unfold b_X6_readDeclaration_26 at hf
  obtain ⟨x1, e1, hf⟩ := bnd hf
  obtain ⟨x2, e2, hf⟩ := bnd hf
  have mE : hp_n h ≤ hp_n hE ∧ hp_s h ≤ hp_s hE := by
    by_cases hc : x2 = (11 : Int32)
    · rw [if_pos hc] at hf; exact (q_X6_readDeclaration_38 hr19 hf).1
    · rw [if_neg hc] at hf; exact (q_X6_readDeclaration_122 hf).1
  refine ⟨by omega, fun X g K ok nmx lev hK en => ?_⟩
  refine tj_aload_n ok 0 dX6_readDeclaration_26 rfl rfl ?_
  refine tj_getR (k := 2) ok fcX6 (by decide) wm_132 rfl (Or.inl ⟨_, rfl⟩) dX6_readDeclaration_27 e1 ?_
  refine tj_getI (k := 0) ok fcX7 (by decide) wm_1062 rfl (Or.inl rfl) dX6_readDeclaration_30 e2 ?_
  refine tj_bipush (v := 11) ok dX6_readDeclaration_33 (by decide) ?_
  refine tj_icmp_ne (tgt := 122) ok dX6_readDeclaration_35 (by decide) (fun hc => ?_) (fun hc => ?_)
  · rw [if_neg hc] at hf
    refine tj_sub (lv' := [(0, .inr (.inr (a0)))]) [0] rfl ?_
    exact (q_X6_readDeclaration_122 hf).2 X g K ok nmx lev hK en
  · rw [if_pos hc] at hf
    exact (q_X6_readDeclaration_38 hr19 hf).2 X g K ok nmx lev hK en
def b_X6_readDeclaration_19 (r19 : Nat → Int32 → Int32 → AH → Option (Int32 × AH)) (a0 : Nat) (a1 : Int32) (a2 : Int32) (h : AH) : Option (Int32 × AH) :=
  if (1000 : Int32) ≤ a2 then b_X6_readDeclaration_122 a0 h else b_X6_readDeclaration_26 r19 a0 a1 a2 h
set_option maxHeartbeats 4000000 in
set_option maxRecDepth 100000 in
theorem q_X6_readDeclaration_19 {hE : AH} {v : Int32} {r19 : Nat → Int32 → Int32 → AH → Option (Int32 × AH)} (hr19 : ∀ (b0 : Nat) (b1 : Int32) (b2 : Int32) (h : AH), r19 b0 b1 b2 h = some (v, hE) → JD cX6_readDeclaration 4 RX6 "readDeclaration" (some .boolean) (4) 19 [(0, .inr (.inr (b0))), (1, .inl (b1)), (2, .inl (b2))] [] h hE (some (.inl (v)))) {a0 : Nat} {a1 : Int32} {a2 : Int32} {h : AH} (hf : b_X6_readDeclaration_19 r19 a0 a1 a2 h = some (v, hE)) : JD cX6_readDeclaration 4 RX6 "readDeclaration" (some .boolean) (4) 19 [(0, .inr (.inr (a0))), (1, .inl (a1)), (2, .inl (a2))] [] h hE (some (.inl (v))) := by
  unfold b_X6_readDeclaration_19 at hf
  have mE : hp_n h ≤ hp_n hE ∧ hp_s h ≤ hp_s hE := by
    by_cases hc : (1000 : Int32) ≤ a2
    · rw [if_pos hc] at hf; exact (q_X6_readDeclaration_122 hf).1
    · rw [if_neg hc] at hf; exact (q_X6_readDeclaration_26 hr19 hf).1
  refine ⟨by omega, fun X g K ok nmx lev hK en => ?_⟩
  refine tj_iload_n ok 2 dX6_readDeclaration_19 rfl rfl ?_
  refine tj_sipush (v := 1000) ok dX6_readDeclaration_20 (by decide) ?_
  refine tj_icmp_ge (tgt := 122) ok dX6_readDeclaration_23 (by decide) (fun hc => ?_) (fun hc => ?_)
  · rw [if_pos hc] at hf
    refine tj_sub (lv' := [(0, .inr (.inr (a0)))]) [0] rfl ?_
    exact (q_X6_readDeclaration_122 hf).2 X g K ok nmx lev hK en
  · rw [if_neg hc] at hf
    exact (q_X6_readDeclaration_26 hr19 hf).2 X g K ok nmx lev hK en
def l_X6_readDeclaration_19 : Nat → Nat → Int32 → Int32 → AH → Option (Int32 × AH)
  | 0 => fun _ _ _ _ => none
  | n + 1 => fun a0 a1 a2 h => b_X6_readDeclaration_19 (l_X6_readDeclaration_19 n) a0 a1 a2 h
theorem ql_X6_readDeclaration_19 {n : Nat} {a0 : Nat} {a1 : Int32} {a2 : Int32} {h hE : AH} {v : Int32} (hf : l_X6_readDeclaration_19 n a0 a1 a2 h = some (v, hE)) : JD cX6_readDeclaration 4 RX6 "readDeclaration" (some .boolean) (4) 19 [(0, .inr (.inr (a0))), (1, .inl (a1)), (2, .inl (a2))] [] h hE (some (.inl (v))) := by
  induction n generalizing a0 a1 a2 h with
  | zero => cases hf
  | succ n ih => exact q_X6_readDeclaration_19 (fun _ _ _ _ hf => ih hf) hf
def b_X6_readDeclaration_17 (a0 : Nat) (a1 : Int32) (h : AH) : Option (Int32 × AH) :=
  l_X6_readDeclaration_19 fu_ a0 a1 (0 : Int32) h
set_option maxHeartbeats 4000000 in
set_option maxRecDepth 100000 in
theorem q_X6_readDeclaration_17 {a0 : Nat} {a1 : Int32} {h hE : AH} {v : Int32} (hf : b_X6_readDeclaration_17 a0 a1 h = some (v, hE)) : JD cX6_readDeclaration 4 RX6 "readDeclaration" (some .boolean) (4) 17 [(0, .inr (.inr (a0))), (1, .inl (a1))] [] h hE (some (.inl (v))) := by
  unfold b_X6_readDeclaration_17 at hf
  have J := ql_X6_readDeclaration_19 hf
  have mE := J.1
  refine ⟨by omega, fun X g K ok nmx lev hK en => ?_⟩
  refine tj_iconst (v := 0) ok dX6_readDeclaration_17 (by decide) ?_
  refine tj_istore_n (lv' := [(0, .inr (.inr (a0))), (1, .inl (a1)), (2, .inl ((0 : Int32)))]) ok dX6_readDeclaration_18 rfl (by decide) rfl ?_
  exact J.2 X g K ok nmx lev hK en
def b_X6_readDeclaration_12 (a0 : Nat) (h : AH) : Option (Int32 × AH) :=
  (ok_v h a0 6).bind fun x1 => (f_X6_refuseToken a0 h).bind fun q2 => ok_z q2.1 q2.2
set_option maxHeartbeats 4000000 in
set_option maxRecDepth 100000 in
theorem q_X6_readDeclaration_12 {a0 : Nat} {h hE : AH} {v : Int32} (hf : b_X6_readDeclaration_12 a0 h = some (v, hE)) : JD cX6_readDeclaration 4 RX6 "readDeclaration" (some .boolean) (4) 12 [(0, .inr (.inr (a0)))] [] h hE (some (.inl (v))) := by
  unfold b_X6_readDeclaration_12 at hf
  obtain ⟨x1, e1, hf⟩ := bnd hf
  obtain ⟨⟨x2, h2⟩, e2, hf⟩ := bnd hf
  try dsimp only at hf
  have k2 := c_X6_refuseToken e2
  have m2 := (k2 default_g).1
  have mE : hp_n h2 ≤ hp_n hE ∧ hp_s h2 ≤ hp_s hE := by obtain ⟨-, q⟩ := of_if hf; cases q; exact ⟨Nat.le_refl _, Nat.le_refl _⟩
  refine ⟨by omega, fun X g K ok nmx lev hK en => ?_⟩
  refine tj_aload_n ok 0 dX6_readDeclaration_12 rfl rfl ?_
  refine tj_callV (rest := ([] : List TV).map (vl g)) (as := []) ok lev (by omega) fcX6.1 (by decide) rfl (of_if e1).1 (k2 g) (CaX.of en (by omega)) kn_X6_refuseToken wm_1093 wm_1094 wm_1095 (rs_ok (Nat.le_of_ble_eq_true rfl)) rfl rfl dX6_readDeclaration_13 ?_
  exact tj_zreturn ok hf en dX6_readDeclaration_16
def b_X6_readDeclaration_0 (a0 : Nat) (a1 : Int32) (h : AH) : Option (Int32 × AH) :=
  (g_r h a0 6 2).bind fun x1 => (g_i h x1 7 0).bind fun x2 => if x2 = (11 : Int32) then b_X6_readDeclaration_17 a0 a1 h else b_X6_readDeclaration_12 a0 h
set_option maxHeartbeats 4000000 in
set_option maxRecDepth 100000 in
theorem q_X6_readDeclaration_0 {a0 : Nat} {a1 : Int32} {h hE : AH} {v : Int32} (hf : b_X6_readDeclaration_0 a0 a1 h = some (v, hE)) : JD cX6_readDeclaration 4 RX6 "readDeclaration" (some .boolean) (4) 0 [(0, .inr (.inr (a0))), (1, .inl (a1))] [] h hE (some (.inl (v))) := by
  unfold b_X6_readDeclaration_0 at hf
  obtain ⟨x1, e1, hf⟩ := bnd hf
  obtain ⟨x2, e2, hf⟩ := bnd hf
  have mE : hp_n h ≤ hp_n hE ∧ hp_s h ≤ hp_s hE := by
    by_cases hc : x2 = (11 : Int32)
    · rw [if_pos hc] at hf; exact (q_X6_readDeclaration_17 hf).1
    · rw [if_neg hc] at hf; exact (q_X6_readDeclaration_12 hf).1
  refine ⟨by omega, fun X g K ok nmx lev hK en => ?_⟩
  refine tj_aload_n ok 0 dX6_readDeclaration_0 rfl rfl ?_
  refine tj_getR (k := 2) ok fcX6 (by decide) wm_132 rfl (Or.inl ⟨_, rfl⟩) dX6_readDeclaration_1 e1 ?_
  refine tj_getI (k := 0) ok fcX7 (by decide) wm_1062 rfl (Or.inl rfl) dX6_readDeclaration_4 e2 ?_
  refine tj_bipush (v := 11) ok dX6_readDeclaration_7 (by decide) ?_
  refine tj_icmp_eq (tgt := 17) ok dX6_readDeclaration_9 (by decide) (fun hc => ?_) (fun hc => ?_)
  · rw [if_pos hc] at hf
    exact (q_X6_readDeclaration_17 hf).2 X g K ok nmx lev hK en
  · rw [if_neg hc] at hf
    refine tj_sub (lv' := [(0, .inr (.inr (a0)))]) [0] rfl ?_
    exact (q_X6_readDeclaration_12 hf).2 X g K ok nmx lev hK en
def f_X6_readDeclaration (a0 : Nat) (a1 : Int32) (h : AH) : Option (Int32 × AH) := b_X6_readDeclaration_0  a0 a1 h
theorem c_X6_readDeclaration {a0 : Nat} {a1 : Int32} {h hE : AH} {v : Int32} (hf : f_X6_readDeclaration a0 a1 h = some (v, hE)) : ∀ g : GT, CM g (4) yX6_readDeclaration cX6_readDeclaration 4 (some .boolean) h [.inr (.inr (a0)), .inl (a1)] hE (some (.inl (v))) :=
  CM.ofJ (by decide) (by show _ ≤ 4; exact Nat.le_of_ble_eq_true rfl) (q_X6_readDeclaration_0 hf)
/-! ===== LitmusHouse$Reader.readDeclarations()Z ===== -/
def b_X6_readDeclarations_50  (h : AH) : Option (Int32 × AH) :=
  ok_z (1 : Int32) h
set_option maxHeartbeats 4000000 in
set_option maxRecDepth 100000 in
theorem q_X6_readDeclarations_50 {h hE : AH} {v : Int32} (hf : b_X6_readDeclarations_50  h = some (v, hE)) : JD cX6_readDeclarations 3 RX6 "readDeclarations" (some .boolean) (5) 50 [] [] h hE (some (.inl (v))) := by
  unfold b_X6_readDeclarations_50 at hf
  have mE : hp_n h ≤ hp_n hE ∧ hp_s h ≤ hp_s hE := by obtain ⟨-, q⟩ := of_if hf; cases q; exact ⟨Nat.le_refl _, Nat.le_refl _⟩
  refine ⟨by omega, fun X g K ok nmx lev hK en => ?_⟩
  refine tj_iconst (v := 1) ok dX6_readDeclarations_50 (by decide) ?_
  exact tj_zreturn ok hf en dX6_readDeclarations_51
def b_X6_readDeclarations_44 (r2 : Nat → Int32 → AH → Option (Int32 × AH)) (a0 : Nat) (a1 : Int32) (h : AH) : Option (Int32 × AH) :=
  r2 a0 (a1 + (1 : Int32)) h
set_option maxHeartbeats 4000000 in
set_option maxRecDepth 100000 in
theorem q_X6_readDeclarations_44 {hE : AH} {v : Int32} {r2 : Nat → Int32 → AH → Option (Int32 × AH)} (hr2 : ∀ (b0 : Nat) (b1 : Int32) (h : AH), r2 b0 b1 h = some (v, hE) → JD cX6_readDeclarations 3 RX6 "readDeclarations" (some .boolean) (5) 2 [(0, .inr (.inr (b0))), (1, .inl (b1))] [] h hE (some (.inl (v)))) {a0 : Nat} {a1 : Int32} {h : AH} (hf : b_X6_readDeclarations_44 r2 a0 a1 h = some (v, hE)) : JD cX6_readDeclarations 3 RX6 "readDeclarations" (some .boolean) (5) 44 [(0, .inr (.inr (a0))), (1, .inl (a1))] [] h hE (some (.inl (v))) := by
  unfold b_X6_readDeclarations_44 at hf
  have J := hr2 _ _ _ hf
  have mE := J.1
  refine ⟨by omega, fun X g K ok nmx lev hK en => ?_⟩
  refine tj_iinc (lv' := [(0, .inr (.inr (a0))), (1, .inl (a1 + (1 : Int32)))]) ok 1 dX6_readDeclarations_44 rfl (rfl) (by decide) rfl ?_
  refine tj_goto (tgt := 2) ok dX6_readDeclarations_47 (by decide) ?_
  exact J.2 X g K ok nmx lev hK en
def b_X6_readDeclarations_42  (h : AH) : Option (Int32 × AH) :=
  ok_z (0 : Int32) h
set_option maxHeartbeats 4000000 in
set_option maxRecDepth 100000 in
theorem q_X6_readDeclarations_42 {h hE : AH} {v : Int32} (hf : b_X6_readDeclarations_42  h = some (v, hE)) : JD cX6_readDeclarations 3 RX6 "readDeclarations" (some .boolean) (5) 42 [] [] h hE (some (.inl (v))) := by
  unfold b_X6_readDeclarations_42 at hf
  have mE : hp_n h ≤ hp_n hE ∧ hp_s h ≤ hp_s hE := by obtain ⟨-, q⟩ := of_if hf; cases q; exact ⟨Nat.le_refl _, Nat.le_refl _⟩
  refine ⟨by omega, fun X g K ok nmx lev hK en => ?_⟩
  refine tj_iconst (v := 0) ok dX6_readDeclarations_42 (by decide) ?_
  exact tj_zreturn ok hf en dX6_readDeclarations_43
def b_X6_readDeclarations_27 (r2 : Nat → Int32 → AH → Option (Int32 × AH)) (a0 : Nat) (a1 : Int32) (a2 : Int32) (h : AH) : Option (Int32 × AH) :=
  (g_r h a0 6 2).bind fun x1 => (ok_v h x1 7).bind fun x2 => (f_X7_advance x1 h).bind fun h3 => (ok_v h3 a0 6).bind fun x4 => (f_X6_readDeclaration a0 a2 h3).bind fun q5 => if q5.1 = 0 then b_X6_readDeclarations_42 q5.2 else b_X6_readDeclarations_44 r2 a0 a1 q5.2
set_option maxHeartbeats 4000000 in
set_option maxRecDepth 100000 in
theorem q_X6_readDeclarations_27 {hE : AH} {v : Int32} {r2 : Nat → Int32 → AH → Option (Int32 × AH)} (hr2 : ∀ (b0 : Nat) (b1 : Int32) (h : AH), r2 b0 b1 h = some (v, hE) → JD cX6_readDeclarations 3 RX6 "readDeclarations" (some .boolean) (5) 2 [(0, .inr (.inr (b0))), (1, .inl (b1))] [] h hE (some (.inl (v)))) {a0 : Nat} {a1 : Int32} {a2 : Int32} {h : AH} (hf : b_X6_readDeclarations_27 r2 a0 a1 a2 h = some (v, hE)) : JD cX6_readDeclarations 3 RX6 "readDeclarations" (some .boolean) (5) 27 [(0, .inr (.inr (a0))), (1, .inl (a1)), (2, .inl (a2))] [] h hE (some (.inl (v))) := by
  unfold b_X6_readDeclarations_27 at hf
  obtain ⟨x1, e1, hf⟩ := bnd hf
  obtain ⟨x2, e2, hf⟩ := bnd hf
  obtain ⟨h3, e3, hf⟩ := bnd hf
  have k3 := c_X7_advance e3
  have m3 := (k3 default_g).1
  obtain ⟨x4, e4, hf⟩ := bnd hf
  obtain ⟨⟨x5, h5⟩, e5, hf⟩ := bnd hf
  try dsimp only at hf
  have k5 := c_X6_readDeclaration e5
  have m5 := (k5 default_g).1
  have mE : hp_n h5 ≤ hp_n hE ∧ hp_s h5 ≤ hp_s hE := by
    by_cases hc : x5 = 0
    · rw [if_pos hc] at hf; exact (q_X6_readDeclarations_42 hf).1
    · rw [if_neg hc] at hf; exact (q_X6_readDeclarations_44 hr2 hf).1
  refine ⟨by omega, fun X g K ok nmx lev hK en => ?_⟩
  refine tj_aload_n ok 0 dX6_readDeclarations_27 rfl rfl ?_
  refine tj_getR (k := 2) ok fcX6 (by decide) wm_132 rfl (Or.inl ⟨_, rfl⟩) dX6_readDeclarations_28 e1 ?_
  refine tj_callV (rest := ([] : List TV).map (vl g)) (as := []) ok lev (by omega) fcX7.1 (by decide) rfl (of_if e2).1 (k3 g) (CaX.of en (by omega)) kn_X7_advance wm_1060 wm_1025 wm_1026 (rs_ok (Nat.le_of_ble_eq_true rfl)) rfl rfl dX6_readDeclarations_31 ?_
  refine tj_aload_n ok 0 dX6_readDeclarations_34 rfl rfl ?_
  refine tj_iload_n ok 2 dX6_readDeclarations_35 rfl rfl ?_
  refine tj_callV (rest := ([] : List TV).map (vl g)) (as := [.inl (a2)]) ok lev (by omega) fcX6.1 (by decide) rfl (of_if e4).1 (k5 g) (CaX.of en (by omega)) kn_X6_readDeclaration wm_1140 wm_1141 wm_1142 (rs_ok (Nat.le_of_ble_eq_true rfl)) rfl rfl dX6_readDeclarations_36 ?_
  refine tj_if_ne (tgt := 44) ok dX6_readDeclarations_39 (by decide) (fun hc => ?_) (fun hc => ?_)
  · rw [if_neg hc] at hf
    refine tj_sub (lv' := [(0, .inr (.inr (a0))), (1, .inl (a1))]) [0, 1] rfl ?_
    exact (q_X6_readDeclarations_44 hr2 hf).2 X g K ok nmx lev hK en
  · rw [if_pos hc] at hf
    refine tj_sub (lv' := []) [] rfl ?_
    exact (q_X6_readDeclarations_42 hf).2 X g K ok nmx lev hK en
def b_X6_readDeclarations_25  (h : AH) : Option (Int32 × AH) :=
  ok_z (1 : Int32) h
set_option maxHeartbeats 4000000 in
set_option maxRecDepth 100000 in
theorem q_X6_readDeclarations_25 {h hE : AH} {v : Int32} (hf : b_X6_readDeclarations_25  h = some (v, hE)) : JD cX6_readDeclarations 3 RX6 "readDeclarations" (some .boolean) (5) 25 [] [] h hE (some (.inl (v))) := by
  unfold b_X6_readDeclarations_25 at hf
  have mE : hp_n h ≤ hp_n hE ∧ hp_s h ≤ hp_s hE := by obtain ⟨-, q⟩ := of_if hf; cases q; exact ⟨Nat.le_refl _, Nat.le_refl _⟩
  refine ⟨by omega, fun X g K ok nmx lev hK en => ?_⟩
  refine tj_iconst (v := 1) ok dX6_readDeclarations_25 (by decide) ?_
  exact tj_zreturn ok hf en dX6_readDeclarations_26
def b_X6_readDeclarations_9 (r2 : Nat → Int32 → AH → Option (Int32 × AH)) (a0 : Nat) (a1 : Int32) (h : AH) : Option (Int32 × AH) :=
  (g_r h a0 6 2).bind fun x1 => (g_i h x1 7 0).bind fun x2 => (f_X6_kindOfWord x2 h).bind fun q3 => if q3.1 = (-1 : Int32) then b_X6_readDeclarations_25 q3.2 else b_X6_readDeclarations_27 r2 a0 a1 q3.1 q3.2
set_option maxHeartbeats 4000000 in
set_option maxRecDepth 100000 in
theorem q_X6_readDeclarations_9 {hE : AH} {v : Int32} {r2 : Nat → Int32 → AH → Option (Int32 × AH)} (hr2 : ∀ (b0 : Nat) (b1 : Int32) (h : AH), r2 b0 b1 h = some (v, hE) → JD cX6_readDeclarations 3 RX6 "readDeclarations" (some .boolean) (5) 2 [(0, .inr (.inr (b0))), (1, .inl (b1))] [] h hE (some (.inl (v)))) {a0 : Nat} {a1 : Int32} {h : AH} (hf : b_X6_readDeclarations_9 r2 a0 a1 h = some (v, hE)) : JD cX6_readDeclarations 3 RX6 "readDeclarations" (some .boolean) (5) 9 [(0, .inr (.inr (a0))), (1, .inl (a1))] [] h hE (some (.inl (v))) := by
  unfold b_X6_readDeclarations_9 at hf
  obtain ⟨x1, e1, hf⟩ := bnd hf
  obtain ⟨x2, e2, hf⟩ := bnd hf
  obtain ⟨⟨x3, h3⟩, e3, hf⟩ := bnd hf
  try dsimp only at hf
  have k3 := c_X6_kindOfWord e3
  have m3 := (k3 default_g).1
  have mE : hp_n h3 ≤ hp_n hE ∧ hp_s h3 ≤ hp_s hE := by
    by_cases hc : x3 = (-1 : Int32)
    · rw [if_pos hc] at hf; exact (q_X6_readDeclarations_25 hf).1
    · rw [if_neg hc] at hf; exact (q_X6_readDeclarations_27 hr2 hf).1
  refine ⟨by omega, fun X g K ok nmx lev hK en => ?_⟩
  refine tj_aload_n ok 0 dX6_readDeclarations_9 rfl rfl ?_
  refine tj_getR (k := 2) ok fcX6 (by decide) wm_132 rfl (Or.inl ⟨_, rfl⟩) dX6_readDeclarations_10 e1 ?_
  refine tj_getI (k := 0) ok fcX7 (by decide) wm_1062 rfl (Or.inl rfl) dX6_readDeclarations_13 e2 ?_
  refine tj_callS (rest := ([] : List TV).map (vl g)) (as := [.inl (x2)]) ok lev (by omega) (k3 g) (CaX.of en (by omega)) kn_X6_kindOfWord wm_1143 wm_1144 (rs_ok (Nat.le_of_ble_eq_true rfl)) rfl rfl dX6_readDeclarations_16 ?_
  refine tj_istore_n (lv' := [(0, .inr (.inr (a0))), (1, .inl (a1)), (2, .inl (x3))]) ok dX6_readDeclarations_19 rfl (by decide) rfl ?_
  refine tj_iload_n ok 2 dX6_readDeclarations_20 rfl rfl ?_
  refine tj_iconst (v := -1) ok dX6_readDeclarations_21 (by decide) ?_
  refine tj_icmp_ne (tgt := 27) ok dX6_readDeclarations_22 (by decide) (fun hc => ?_) (fun hc => ?_)
  · rw [if_neg hc] at hf
    exact (q_X6_readDeclarations_27 hr2 hf).2 X g K ok nmx lev hK en
  · rw [if_pos hc] at hf
    refine tj_sub (lv' := []) [] rfl ?_
    exact (q_X6_readDeclarations_25 hf).2 X g K ok nmx lev hK en
def b_X6_readDeclarations_2 (r2 : Nat → Int32 → AH → Option (Int32 × AH)) (a0 : Nat) (a1 : Int32) (h : AH) : Option (Int32 × AH) :=
  if (1000 : Int32) ≤ a1 then b_X6_readDeclarations_50 h else b_X6_readDeclarations_9 r2 a0 a1 h
set_option maxHeartbeats 4000000 in
set_option maxRecDepth 100000 in
theorem q_X6_readDeclarations_2 {hE : AH} {v : Int32} {r2 : Nat → Int32 → AH → Option (Int32 × AH)} (hr2 : ∀ (b0 : Nat) (b1 : Int32) (h : AH), r2 b0 b1 h = some (v, hE) → JD cX6_readDeclarations 3 RX6 "readDeclarations" (some .boolean) (5) 2 [(0, .inr (.inr (b0))), (1, .inl (b1))] [] h hE (some (.inl (v)))) {a0 : Nat} {a1 : Int32} {h : AH} (hf : b_X6_readDeclarations_2 r2 a0 a1 h = some (v, hE)) : JD cX6_readDeclarations 3 RX6 "readDeclarations" (some .boolean) (5) 2 [(0, .inr (.inr (a0))), (1, .inl (a1))] [] h hE (some (.inl (v))) := by
  unfold b_X6_readDeclarations_2 at hf
  have mE : hp_n h ≤ hp_n hE ∧ hp_s h ≤ hp_s hE := by
    by_cases hc : (1000 : Int32) ≤ a1
    · rw [if_pos hc] at hf; exact (q_X6_readDeclarations_50 hf).1
    · rw [if_neg hc] at hf; exact (q_X6_readDeclarations_9 hr2 hf).1
  refine ⟨by omega, fun X g K ok nmx lev hK en => ?_⟩
  refine tj_iload_n ok 1 dX6_readDeclarations_2 rfl rfl ?_
  refine tj_sipush (v := 1000) ok dX6_readDeclarations_3 (by decide) ?_
  refine tj_icmp_ge (tgt := 50) ok dX6_readDeclarations_6 (by decide) (fun hc => ?_) (fun hc => ?_)
  · rw [if_pos hc] at hf
    refine tj_sub (lv' := []) [] rfl ?_
    exact (q_X6_readDeclarations_50 hf).2 X g K ok nmx lev hK en
  · rw [if_neg hc] at hf
    exact (q_X6_readDeclarations_9 hr2 hf).2 X g K ok nmx lev hK en
def l_X6_readDeclarations_2 : Nat → Nat → Int32 → AH → Option (Int32 × AH)
  | 0 => fun _ _ _ => none
  | n + 1 => fun a0 a1 h => b_X6_readDeclarations_2 (l_X6_readDeclarations_2 n) a0 a1 h
theorem ql_X6_readDeclarations_2 {n : Nat} {a0 : Nat} {a1 : Int32} {h hE : AH} {v : Int32} (hf : l_X6_readDeclarations_2 n a0 a1 h = some (v, hE)) : JD cX6_readDeclarations 3 RX6 "readDeclarations" (some .boolean) (5) 2 [(0, .inr (.inr (a0))), (1, .inl (a1))] [] h hE (some (.inl (v))) := by
  induction n generalizing a0 a1 h with
  | zero => cases hf
  | succ n ih => exact q_X6_readDeclarations_2 (fun _ _ _ hf => ih hf) hf
def b_X6_readDeclarations_0 (a0 : Nat) (h : AH) : Option (Int32 × AH) :=
  l_X6_readDeclarations_2 fu_ a0 (0 : Int32) h
set_option maxHeartbeats 4000000 in
set_option maxRecDepth 100000 in
theorem q_X6_readDeclarations_0 {a0 : Nat} {h hE : AH} {v : Int32} (hf : b_X6_readDeclarations_0 a0 h = some (v, hE)) : JD cX6_readDeclarations 3 RX6 "readDeclarations" (some .boolean) (5) 0 [(0, .inr (.inr (a0)))] [] h hE (some (.inl (v))) := by
  unfold b_X6_readDeclarations_0 at hf
  have J := ql_X6_readDeclarations_2 hf
  have mE := J.1
  refine ⟨by omega, fun X g K ok nmx lev hK en => ?_⟩
  refine tj_iconst (v := 0) ok dX6_readDeclarations_0 (by decide) ?_
  refine tj_istore_n (lv' := [(0, .inr (.inr (a0))), (1, .inl ((0 : Int32)))]) ok dX6_readDeclarations_1 rfl (by decide) rfl ?_
  exact J.2 X g K ok nmx lev hK en
def f_X6_readDeclarations (a0 : Nat) (h : AH) : Option (Int32 × AH) := b_X6_readDeclarations_0  a0 h
theorem c_X6_readDeclarations {a0 : Nat} {h hE : AH} {v : Int32} (hf : f_X6_readDeclarations a0 h = some (v, hE)) : ∀ g : GT, CM g (5) yX6_readDeclarations cX6_readDeclarations 3 (some .boolean) h [.inr (.inr (a0))] hE (some (.inl (v))) :=
  CM.ofJ (by decide) (by show _ ≤ 3; exact Nat.le_of_ble_eq_true rfl) (q_X6_readDeclarations_0 hf)
/-! ===== LitmusHouse$Reader.read([II)LLitmusHouse$Program; ===== -/
def b_X6_read_126 (a0 : Nat) (h : AH) : Option (Nat × AH) :=
  (g_r h a0 6 4).bind fun x1 => some (x1, h)
set_option maxHeartbeats 4000000 in
set_option maxRecDepth 100000 in
theorem q_X6_read_126 {a0 : Nat} {h hE : AH} {v : Nat} (hf : b_X6_read_126 a0 h = some (v, hE)) : JD cX6_read 5 RX6 "read" (some (.object "LitmusHouse$Program")) (169) 126 [(0, .inr (.inr (a0)))] [] h hE (some (.inr (.inr (v)))) := by
  unfold b_X6_read_126 at hf
  obtain ⟨x1, e1, hf⟩ := bnd hf
  obtain ⟨hv, hh⟩ := Prod.mk.inj (Option.some.inj hf)
  subst hv
  subst hh
  have mE : hp_n h ≤ hp_n h ∧ hp_s h ≤ hp_s h := ⟨Nat.le_refl _, Nat.le_refl _⟩
  refine ⟨by omega, fun X g K ok nmx lev hK en => ?_⟩
  refine tj_aload_n ok 0 dX6_read_126 rfl rfl ?_
  refine tj_getR (k := 4) ok fcX6 (by decide) wm_134 rfl (Or.inl ⟨_, rfl⟩) dX6_read_127 e1 ?_
  exact tj_areturn ok (Or.inl ⟨_, rfl⟩) en dX6_read_130
def b_X6_read_112 (a0 : Nat) (h : AH) : Option (Nat × AH) :=
  (g_r h a0 6 2).bind fun x1 => (g_i h x1 7 2).bind fun x2 => (ok_v h a0 6).bind fun x3 => (f_X6_refuse a0 (7 : Int32) x2 h).bind fun q4 => b_X6_read_126 a0 q4.2
set_option maxHeartbeats 4000000 in
set_option maxRecDepth 100000 in
theorem q_X6_read_112 {a0 : Nat} {h hE : AH} {v : Nat} (hf : b_X6_read_112 a0 h = some (v, hE)) : JD cX6_read 5 RX6 "read" (some (.object "LitmusHouse$Program")) (169) 112 [(0, .inr (.inr (a0)))] [] h hE (some (.inr (.inr (v)))) := by
  unfold b_X6_read_112 at hf
  obtain ⟨x1, e1, hf⟩ := bnd hf
  obtain ⟨x2, e2, hf⟩ := bnd hf
  obtain ⟨x3, e3, hf⟩ := bnd hf
  obtain ⟨⟨x4, h4⟩, e4, hf⟩ := bnd hf
  try dsimp only at hf
  have k4 := c_X6_refuse e4
  have m4 := (k4 default_g).1
  have J := q_X6_read_126 hf
  have mE := J.1
  refine ⟨by omega, fun X g K ok nmx lev hK en => ?_⟩
  refine tj_aload_n ok 0 dX6_read_112 rfl rfl ?_
  refine tj_bipush (v := 7) ok dX6_read_113 (by decide) ?_
  refine tj_aload_n ok 0 dX6_read_115 rfl rfl ?_
  refine tj_getR (k := 2) ok fcX6 (by decide) wm_132 rfl (Or.inl ⟨_, rfl⟩) dX6_read_116 e1 ?_
  refine tj_getI (k := 2) ok fcX7 (by decide) wm_1040 rfl (Or.inl rfl) dX6_read_119 e2 ?_
  refine tj_callV (rest := ([] : List TV).map (vl g)) (as := [.inl ((7 : Int32)), .inl (x2)]) ok lev (by omega) fcX6.1 (by decide) rfl (of_if e3).1 (k4 g) (CaX.of en (by omega)) kn_X6_refuse wm_1041 wm_1042 wm_1043 (rs_ok (Nat.le_of_ble_eq_true rfl)) rfl rfl dX6_read_122 ?_
  refine tj_popi ok dX6_read_125 ?_
  exact J.2 X g K ok nmx lev hK en
def b_X6_read_102 (a0 : Nat) (h : AH) : Option (Nat × AH) :=
  (g_r h a0 6 5).bind fun x1 => (g_i h x1 0 11).bind fun x2 => if x2 = 0 then b_X6_read_112 a0 h else b_X6_read_126 a0 h
set_option maxHeartbeats 4000000 in
set_option maxRecDepth 100000 in
theorem q_X6_read_102 {a0 : Nat} {h hE : AH} {v : Nat} (hf : b_X6_read_102 a0 h = some (v, hE)) : JD cX6_read 5 RX6 "read" (some (.object "LitmusHouse$Program")) (169) 102 [(0, .inr (.inr (a0)))] [] h hE (some (.inr (.inr (v)))) := by
  unfold b_X6_read_102 at hf
  obtain ⟨x1, e1, hf⟩ := bnd hf
  obtain ⟨x2, e2, hf⟩ := bnd hf
  have mE : hp_n h ≤ hp_n hE ∧ hp_s h ≤ hp_s hE := by
    by_cases hc : x2 = 0
    · rw [if_pos hc] at hf; exact (q_X6_read_112 hf).1
    · rw [if_neg hc] at hf; exact (q_X6_read_126 hf).1
  refine ⟨by omega, fun X g K ok nmx lev hK en => ?_⟩
  refine tj_aload_n ok 0 dX6_read_102 rfl rfl ?_
  refine tj_getR (k := 5) ok fcX6 (by decide) wm_135 rfl (Or.inl ⟨_, rfl⟩) dX6_read_103 e1 ?_
  refine tj_getI (k := 11) ok fcX0 (by decide) wm_1057 rfl (Or.inl rfl) dX6_read_106 e2 ?_
  refine tj_if_ne (tgt := 126) ok dX6_read_109 (by decide) (fun hc => ?_) (fun hc => ?_)
  · rw [if_neg hc] at hf
    exact (q_X6_read_126 hf).2 X g K ok nmx lev hK en
  · rw [if_pos hc] at hf
    exact (q_X6_read_112 hf).2 X g K ok nmx lev hK en
def b_X6_read_98 (a0 : Nat) (a3 : Int32) (h : AH) : Option (Nat × AH) :=
  if a3 = 0 then b_X6_read_126 a0 h else b_X6_read_102 a0 h
set_option maxHeartbeats 4000000 in
set_option maxRecDepth 100000 in
theorem q_X6_read_98 {a0 : Nat} {a3 : Int32} {h hE : AH} {v : Nat} (hf : b_X6_read_98 a0 a3 h = some (v, hE)) : JD cX6_read 5 RX6 "read" (some (.object "LitmusHouse$Program")) (169) 98 [(0, .inr (.inr (a0))), (3, .inl (a3))] [] h hE (some (.inr (.inr (v)))) := by
  unfold b_X6_read_98 at hf
  have mE : hp_n h ≤ hp_n hE ∧ hp_s h ≤ hp_s hE := by
    by_cases hc : a3 = 0
    · rw [if_pos hc] at hf; exact (q_X6_read_126 hf).1
    · rw [if_neg hc] at hf; exact (q_X6_read_102 hf).1
  refine ⟨by omega, fun X g K ok nmx lev hK en => ?_⟩
  refine tj_iload_n ok 1 dX6_read_98 rfl rfl ?_
  refine tj_if_eq (tgt := 126) ok dX6_read_99 (by decide) (fun hc => ?_) (fun hc => ?_)
  · rw [if_pos hc] at hf
    refine tj_sub (lv' := [(0, .inr (.inr (a0)))]) [0] rfl ?_
    exact (q_X6_read_126 hf).2 X g K ok nmx lev hK en
  · rw [if_neg hc] at hf
    refine tj_sub (lv' := [(0, .inr (.inr (a0)))]) [0] rfl ?_
    exact (q_X6_read_102 hf).2 X g K ok nmx lev hK en
def b_X6_read_90 (a0 : Nat) (h : AH) : Option (Nat × AH) :=
  (ok_v h a0 6).bind fun x1 => (f_X6_refuseToken a0 h).bind fun q2 => b_X6_read_126 a0 q2.2
set_option maxHeartbeats 4000000 in
set_option maxRecDepth 100000 in
theorem q_X6_read_90 {a0 : Nat} {h hE : AH} {v : Nat} (hf : b_X6_read_90 a0 h = some (v, hE)) : JD cX6_read 5 RX6 "read" (some (.object "LitmusHouse$Program")) (169) 90 [(0, .inr (.inr (a0)))] [] h hE (some (.inr (.inr (v)))) := by
  unfold b_X6_read_90 at hf
  obtain ⟨x1, e1, hf⟩ := bnd hf
  obtain ⟨⟨x2, h2⟩, e2, hf⟩ := bnd hf
  try dsimp only at hf
  have k2 := c_X6_refuseToken e2
  have m2 := (k2 default_g).1
  have J := q_X6_read_126 hf
  have mE := J.1
  refine ⟨by omega, fun X g K ok nmx lev hK en => ?_⟩
  refine tj_aload_n ok 0 dX6_read_90 rfl rfl ?_
  refine tj_callV (rest := ([] : List TV).map (vl g)) (as := []) ok lev (by omega) fcX6.1 (by decide) rfl (of_if e1).1 (k2 g) (CaX.of en (by omega)) kn_X6_refuseToken wm_1093 wm_1094 wm_1095 (rs_ok (Nat.le_of_ble_eq_true rfl)) rfl rfl dX6_read_91 ?_
  refine tj_popi ok dX6_read_94 ?_
  refine tj_goto (tgt := 126) ok dX6_read_95 (by decide) ?_
  exact J.2 X g K ok nmx lev hK en
def b_X6_read_80 (a0 : Nat) (a3 : Int32) (h : AH) : Option (Nat × AH) :=
  (g_r h a0 6 2).bind fun x1 => (g_i h x1 7 0).bind fun x2 => if x2 = 0 then b_X6_read_98 a0 a3 h else b_X6_read_90 a0 h
set_option maxHeartbeats 4000000 in
set_option maxRecDepth 100000 in
theorem q_X6_read_80 {a0 : Nat} {a3 : Int32} {h hE : AH} {v : Nat} (hf : b_X6_read_80 a0 a3 h = some (v, hE)) : JD cX6_read 5 RX6 "read" (some (.object "LitmusHouse$Program")) (169) 80 [(0, .inr (.inr (a0))), (3, .inl (a3))] [] h hE (some (.inr (.inr (v)))) := by
  unfold b_X6_read_80 at hf
  obtain ⟨x1, e1, hf⟩ := bnd hf
  obtain ⟨x2, e2, hf⟩ := bnd hf
  have mE : hp_n h ≤ hp_n hE ∧ hp_s h ≤ hp_s hE := by
    by_cases hc : x2 = 0
    · rw [if_pos hc] at hf; exact (q_X6_read_98 hf).1
    · rw [if_neg hc] at hf; exact (q_X6_read_90 hf).1
  refine ⟨by omega, fun X g K ok nmx lev hK en => ?_⟩
  refine tj_aload_n ok 0 dX6_read_80 rfl rfl ?_
  refine tj_getR (k := 2) ok fcX6 (by decide) wm_132 rfl (Or.inl ⟨_, rfl⟩) dX6_read_81 e1 ?_
  refine tj_getI (k := 0) ok fcX7 (by decide) wm_1062 rfl (Or.inl rfl) dX6_read_84 e2 ?_
  refine tj_if_eq (tgt := 98) ok dX6_read_87 (by decide) (fun hc => ?_) (fun hc => ?_)
  · rw [if_pos hc] at hf
    exact (q_X6_read_98 hf).2 X g K ok nmx lev hK en
  · rw [if_neg hc] at hf
    refine tj_sub (lv' := [(0, .inr (.inr (a0)))]) [0] rfl ?_
    exact (q_X6_read_90 hf).2 X g K ok nmx lev hK en
def b_X6_read_76 (a0 : Nat) (a3 : Int32) (h : AH) : Option (Nat × AH) :=
  if a3 = 0 then b_X6_read_98 a0 a3 h else b_X6_read_80 a0 a3 h
set_option maxHeartbeats 4000000 in
set_option maxRecDepth 100000 in
theorem q_X6_read_76 {a0 : Nat} {a3 : Int32} {h hE : AH} {v : Nat} (hf : b_X6_read_76 a0 a3 h = some (v, hE)) : JD cX6_read 5 RX6 "read" (some (.object "LitmusHouse$Program")) (169) 76 [(0, .inr (.inr (a0))), (3, .inl (a3))] [] h hE (some (.inr (.inr (v)))) := by
  unfold b_X6_read_76 at hf
  have mE : hp_n h ≤ hp_n hE ∧ hp_s h ≤ hp_s hE := by
    by_cases hc : a3 = 0
    · rw [if_pos hc] at hf; exact (q_X6_read_98 hf).1
    · rw [if_neg hc] at hf; exact (q_X6_read_80 hf).1
  refine ⟨by omega, fun X g K ok nmx lev hK en => ?_⟩
  refine tj_iload_n ok 1 dX6_read_76 rfl rfl ?_
  refine tj_if_eq (tgt := 98) ok dX6_read_77 (by decide) (fun hc => ?_) (fun hc => ?_)
  · rw [if_pos hc] at hf
    exact (q_X6_read_98 hf).2 X g K ok nmx lev hK en
  · rw [if_neg hc] at hf
    exact (q_X6_read_80 hf).2 X g K ok nmx lev hK en
def b_X6_read_55 (r14 : Nat → Int32 → Int32 → AH → Option (Nat × AH)) (a0 : Nat) (a4 : Int32) (s0 : Int32) (h : AH) : Option (Nat × AH) :=
  (g_r h a0 6 5).bind fun x1 => (ok_v h x1 0).bind fun x2 => (f_X0_add x1 (10 : Int32) (-1 : Int32) (-1 : Int32) (-1 : Int32) (-1 : Int32) h).bind fun q3 => r14 a0 s0 (a4 + (1 : Int32)) q3.2
set_option maxHeartbeats 4000000 in
set_option maxRecDepth 100000 in
theorem q_X6_read_55 {hE : AH} {v : Nat} {r14 : Nat → Int32 → Int32 → AH → Option (Nat × AH)} (hr14 : ∀ (b0 : Nat) (b3 : Int32) (b4 : Int32) (h : AH), r14 b0 b3 b4 h = some (v, hE) → JD cX6_read 5 RX6 "read" (some (.object "LitmusHouse$Program")) (169) 14 [(0, .inr (.inr (b0))), (3, .inl (b3)), (4, .inl (b4))] [] h hE (some (.inr (.inr (v))))) {a0 : Nat} {a4 : Int32} {s0 : Int32} {h : AH} (hf : b_X6_read_55 r14 a0 a4 s0 h = some (v, hE)) : JD cX6_read 5 RX6 "read" (some (.object "LitmusHouse$Program")) (169) 55 [(0, .inr (.inr (a0))), (4, .inl (a4))] [.inl (s0)] h hE (some (.inr (.inr (v)))) := by
  unfold b_X6_read_55 at hf
  obtain ⟨x1, e1, hf⟩ := bnd hf
  obtain ⟨x2, e2, hf⟩ := bnd hf
  obtain ⟨⟨x3, h3⟩, e3, hf⟩ := bnd hf
  try dsimp only at hf
  have k3 := c_X0_add e3
  have m3 := (k3 default_g).1
  have J := hr14 _ _ _ _ hf
  have mE := J.1
  refine ⟨by omega, fun X g K ok nmx lev hK en => ?_⟩
  refine tj_istore_n (lv' := [(0, .inr (.inr (a0))), (3, .inl (s0)), (4, .inl (a4))]) ok dX6_read_55 rfl (by decide) rfl ?_
  refine tj_aload_n ok 0 dX6_read_56 rfl rfl ?_
  refine tj_getR (k := 5) ok fcX6 (by decide) wm_135 rfl (Or.inl ⟨_, rfl⟩) dX6_read_57 e1 ?_
  refine tj_bipush (v := 10) ok dX6_read_60 (by decide) ?_
  refine tj_iconst (v := -1) ok dX6_read_62 (by decide) ?_
  refine tj_iconst (v := -1) ok dX6_read_63 (by decide) ?_
  refine tj_iconst (v := -1) ok dX6_read_64 (by decide) ?_
  refine tj_iconst (v := -1) ok dX6_read_65 (by decide) ?_
  refine tj_callV (rest := ([] : List TV).map (vl g)) (as := [.inl ((10 : Int32)), .inl ((-1 : Int32)), .inl ((-1 : Int32)), .inl ((-1 : Int32)), .inl ((-1 : Int32))]) ok lev (by omega) fcX0.1 (by decide) rfl (of_if e2).1 (k3 g) (CaX.of en (by omega)) kn_X0_add wm_1081 wm_71 wm_72 (rs_ok (Nat.le_of_ble_eq_true rfl)) rfl rfl dX6_read_66 ?_
  refine tj_popi ok dX6_read_69 ?_
  refine tj_iinc (lv' := [(0, .inr (.inr (a0))), (3, .inl (s0)), (4, .inl (a4 + (1 : Int32)))]) ok 2 dX6_read_70 rfl (rfl) (by decide) rfl ?_
  refine tj_goto (tgt := 14) ok dX6_read_73 (by decide) ?_
  exact J.2 X g K ok nmx lev hK en
def b_X6_read_54 (r14 : Nat → Int32 → Int32 → AH → Option (Nat × AH)) (a0 : Nat) (a4 : Int32) (h : AH) : Option (Nat × AH) :=
  b_X6_read_55 r14 a0 a4 (0 : Int32) h
set_option maxHeartbeats 4000000 in
set_option maxRecDepth 100000 in
theorem q_X6_read_54 {hE : AH} {v : Nat} {r14 : Nat → Int32 → Int32 → AH → Option (Nat × AH)} (hr14 : ∀ (b0 : Nat) (b3 : Int32) (b4 : Int32) (h : AH), r14 b0 b3 b4 h = some (v, hE) → JD cX6_read 5 RX6 "read" (some (.object "LitmusHouse$Program")) (169) 14 [(0, .inr (.inr (b0))), (3, .inl (b3)), (4, .inl (b4))] [] h hE (some (.inr (.inr (v))))) {a0 : Nat} {a4 : Int32} {h : AH} (hf : b_X6_read_54 r14 a0 a4 h = some (v, hE)) : JD cX6_read 5 RX6 "read" (some (.object "LitmusHouse$Program")) (169) 54 [(0, .inr (.inr (a0))), (4, .inl (a4))] [] h hE (some (.inr (.inr (v)))) := by
  unfold b_X6_read_54 at hf
  have J := q_X6_read_55 hr14 hf
  have mE := J.1
  refine ⟨by omega, fun X g K ok nmx lev hK en => ?_⟩
  refine tj_iconst (v := 0) ok dX6_read_54 (by decide) ?_
  exact J.2 X g K ok nmx lev hK en
def b_X6_read_50 (r14 : Nat → Int32 → Int32 → AH → Option (Nat × AH)) (a0 : Nat) (a4 : Int32) (h : AH) : Option (Nat × AH) :=
  b_X6_read_55 r14 a0 a4 (1 : Int32) h
set_option maxHeartbeats 4000000 in
set_option maxRecDepth 100000 in
theorem q_X6_read_50 {hE : AH} {v : Nat} {r14 : Nat → Int32 → Int32 → AH → Option (Nat × AH)} (hr14 : ∀ (b0 : Nat) (b3 : Int32) (b4 : Int32) (h : AH), r14 b0 b3 b4 h = some (v, hE) → JD cX6_read 5 RX6 "read" (some (.object "LitmusHouse$Program")) (169) 14 [(0, .inr (.inr (b0))), (3, .inl (b3)), (4, .inl (b4))] [] h hE (some (.inr (.inr (v))))) {a0 : Nat} {a4 : Int32} {h : AH} (hf : b_X6_read_50 r14 a0 a4 h = some (v, hE)) : JD cX6_read 5 RX6 "read" (some (.object "LitmusHouse$Program")) (169) 50 [(0, .inr (.inr (a0))), (4, .inl (a4))] [] h hE (some (.inr (.inr (v)))) := by
  unfold b_X6_read_50 at hf
  have J := q_X6_read_55 hr14 hf
  have mE := J.1
  refine ⟨by omega, fun X g K ok nmx lev hK en => ?_⟩
  refine tj_iconst (v := 1) ok dX6_read_50 (by decide) ?_
  refine tj_goto (tgt := 55) ok dX6_read_51 (by decide) ?_
  exact J.2 X g K ok nmx lev hK en
def b_X6_read_42 (r14 : Nat → Int32 → Int32 → AH → Option (Nat × AH)) (a0 : Nat) (a4 : Int32) (h : AH) : Option (Nat × AH) :=
  (ok_v h a0 6).bind fun x1 => (f_X6_readBlock dp_ a0 (-1 : Int32) h).bind fun q2 => if q2.1 = 0 then b_X6_read_54 r14 a0 a4 q2.2 else b_X6_read_50 r14 a0 a4 q2.2
set_option maxHeartbeats 4000000 in
set_option maxRecDepth 100000 in
theorem q_X6_read_42 {hE : AH} {v : Nat} {r14 : Nat → Int32 → Int32 → AH → Option (Nat × AH)} (hr14 : ∀ (b0 : Nat) (b3 : Int32) (b4 : Int32) (h : AH), r14 b0 b3 b4 h = some (v, hE) → JD cX6_read 5 RX6 "read" (some (.object "LitmusHouse$Program")) (169) 14 [(0, .inr (.inr (b0))), (3, .inl (b3)), (4, .inl (b4))] [] h hE (some (.inr (.inr (v))))) {a0 : Nat} {a4 : Int32} {h : AH} (hf : b_X6_read_42 r14 a0 a4 h = some (v, hE)) : JD cX6_read 5 RX6 "read" (some (.object "LitmusHouse$Program")) (169) 42 [(0, .inr (.inr (a0))), (4, .inl (a4))] [] h hE (some (.inr (.inr (v)))) := by
  unfold b_X6_read_42 at hf
  obtain ⟨x1, e1, hf⟩ := bnd hf
  obtain ⟨⟨x2, h2⟩, e2, hf⟩ := bnd hf
  try dsimp only at hf
  have k2 := c_X6_readBlock dp_ e2
  have m2 := (k2 default_g).1
  have mE : hp_n h2 ≤ hp_n hE ∧ hp_s h2 ≤ hp_s hE := by
    by_cases hc : x2 = 0
    · rw [if_pos hc] at hf; exact (q_X6_read_54 hr14 hf).1
    · rw [if_neg hc] at hf; exact (q_X6_read_50 hr14 hf).1
  refine ⟨by omega, fun X g K ok nmx lev hK en => ?_⟩
  refine tj_aload_n ok 0 dX6_read_42 rfl rfl ?_
  refine tj_iconst (v := -1) ok dX6_read_43 (by decide) ?_
  refine tj_callV (rest := ([] : List TV).map (vl g)) (as := [.inl ((-1 : Int32))]) ok lev (by unfold dp_; omega) fcX6.1 (by decide) rfl (of_if e1).1 (k2 g) (CaX.of en (by omega)) kn_X6_readBlock wm_1082 wm_1083 wm_1084 (rs_ok (Nat.le_of_ble_eq_true rfl)) rfl rfl dX6_read_44 ?_
  refine tj_if_eq (tgt := 54) ok dX6_read_47 (by decide) (fun hc => ?_) (fun hc => ?_)
  · rw [if_pos hc] at hf
    exact (q_X6_read_54 hr14 hf).2 X g K ok nmx lev hK en
  · rw [if_neg hc] at hf
    exact (q_X6_read_50 hr14 hf).2 X g K ok nmx lev hK en
def b_X6_read_35 (r14 : Nat → Int32 → Int32 → AH → Option (Nat × AH)) (a0 : Nat) (a4 : Int32) (h : AH) : Option (Nat × AH) :=
  (ok_v h a0 6).bind fun x1 => (f_X6_openThread a0 h).bind fun q2 => if q2.1 = 0 then b_X6_read_54 r14 a0 a4 q2.2 else b_X6_read_42 r14 a0 a4 q2.2
set_option maxHeartbeats 4000000 in
set_option maxRecDepth 100000 in
theorem q_X6_read_35 {hE : AH} {v : Nat} {r14 : Nat → Int32 → Int32 → AH → Option (Nat × AH)} (hr14 : ∀ (b0 : Nat) (b3 : Int32) (b4 : Int32) (h : AH), r14 b0 b3 b4 h = some (v, hE) → JD cX6_read 5 RX6 "read" (some (.object "LitmusHouse$Program")) (169) 14 [(0, .inr (.inr (b0))), (3, .inl (b3)), (4, .inl (b4))] [] h hE (some (.inr (.inr (v))))) {a0 : Nat} {a4 : Int32} {h : AH} (hf : b_X6_read_35 r14 a0 a4 h = some (v, hE)) : JD cX6_read 5 RX6 "read" (some (.object "LitmusHouse$Program")) (169) 35 [(0, .inr (.inr (a0))), (4, .inl (a4))] [] h hE (some (.inr (.inr (v)))) := by
  unfold b_X6_read_35 at hf
  obtain ⟨x1, e1, hf⟩ := bnd hf
  obtain ⟨⟨x2, h2⟩, e2, hf⟩ := bnd hf
  try dsimp only at hf
  have k2 := c_X6_openThread e2
  have m2 := (k2 default_g).1
  have mE : hp_n h2 ≤ hp_n hE ∧ hp_s h2 ≤ hp_s hE := by
    by_cases hc : x2 = 0
    · rw [if_pos hc] at hf; exact (q_X6_read_54 hr14 hf).1
    · rw [if_neg hc] at hf; exact (q_X6_read_42 hr14 hf).1
  refine ⟨by omega, fun X g K ok nmx lev hK en => ?_⟩
  refine tj_aload_n ok 0 dX6_read_35 rfl rfl ?_
  refine tj_callV (rest := ([] : List TV).map (vl g)) (as := []) ok lev (by omega) fcX6.1 (by decide) rfl (of_if e1).1 (k2 g) (CaX.of en (by omega)) kn_X6_openThread wm_1146 wm_1147 wm_1148 (rs_ok (Nat.le_of_ble_eq_true rfl)) rfl rfl dX6_read_36 ?_
  refine tj_if_eq (tgt := 54) ok dX6_read_39 (by decide) (fun hc => ?_) (fun hc => ?_)
  · rw [if_pos hc] at hf
    exact (q_X6_read_54 hr14 hf).2 X g K ok nmx lev hK en
  · rw [if_neg hc] at hf
    exact (q_X6_read_42 hr14 hf).2 X g K ok nmx lev hK en
def b_X6_read_24 (r14 : Nat → Int32 → Int32 → AH → Option (Nat × AH)) (a0 : Nat) (a3 : Int32) (a4 : Int32) (h : AH) : Option (Nat × AH) :=
  (g_r h a0 6 2).bind fun x1 => (g_i h x1 7 0).bind fun x2 => if x2 = (5 : Int32) then b_X6_read_35 r14 a0 a4 h else b_X6_read_76 a0 a3 h
set_option maxHeartbeats 4000000 in
set_option maxRecDepth 100000 in
theorem q_X6_read_24 {hE : AH} {v : Nat} {r14 : Nat → Int32 → Int32 → AH → Option (Nat × AH)} (hr14 : ∀ (b0 : Nat) (b3 : Int32) (b4 : Int32) (h : AH), r14 b0 b3 b4 h = some (v, hE) → JD cX6_read 5 RX6 "read" (some (.object "LitmusHouse$Program")) (169) 14 [(0, .inr (.inr (b0))), (3, .inl (b3)), (4, .inl (b4))] [] h hE (some (.inr (.inr (v))))) {a0 : Nat} {a3 : Int32} {a4 : Int32} {h : AH} (hf : b_X6_read_24 r14 a0 a3 a4 h = some (v, hE)) : JD cX6_read 5 RX6 "read" (some (.object "LitmusHouse$Program")) (169) 24 [(0, .inr (.inr (a0))), (3, .inl (a3)), (4, .inl (a4))] [] h hE (some (.inr (.inr (v)))) := by
  unfold b_X6_read_24 at hf
  obtain ⟨x1, e1, hf⟩ := bnd hf
  obtain ⟨x2, e2, hf⟩ := bnd hf
  have mE : hp_n h ≤ hp_n hE ∧ hp_s h ≤ hp_s hE := by
    by_cases hc : x2 = (5 : Int32)
    · rw [if_pos hc] at hf; exact (q_X6_read_35 hr14 hf).1
    · rw [if_neg hc] at hf; exact (q_X6_read_76 hf).1
  refine ⟨by omega, fun X g K ok nmx lev hK en => ?_⟩
  refine tj_aload_n ok 0 dX6_read_24 rfl rfl ?_
  refine tj_getR (k := 2) ok fcX6 (by decide) wm_132 rfl (Or.inl ⟨_, rfl⟩) dX6_read_25 e1 ?_
  refine tj_getI (k := 0) ok fcX7 (by decide) wm_1062 rfl (Or.inl rfl) dX6_read_28 e2 ?_
  refine tj_iconst (v := 5) ok dX6_read_31 (by decide) ?_
  refine tj_icmp_ne (tgt := 76) ok dX6_read_32 (by decide) (fun hc => ?_) (fun hc => ?_)
  · rw [if_neg hc] at hf
    refine tj_sub (lv' := [(0, .inr (.inr (a0))), (3, .inl (a3))]) [0, 1] rfl ?_
    exact (q_X6_read_76 hf).2 X g K ok nmx lev hK en
  · rw [if_pos hc] at hf
    refine tj_sub (lv' := [(0, .inr (.inr (a0))), (4, .inl (a4))]) [0, 2] rfl ?_
    exact (q_X6_read_35 hr14 hf).2 X g K ok nmx lev hK en
def b_X6_read_20 (r14 : Nat → Int32 → Int32 → AH → Option (Nat × AH)) (a0 : Nat) (a3 : Int32) (a4 : Int32) (h : AH) : Option (Nat × AH) :=
  if a3 = 0 then b_X6_read_76 a0 a3 h else b_X6_read_24 r14 a0 a3 a4 h
set_option maxHeartbeats 4000000 in
set_option maxRecDepth 100000 in
theorem q_X6_read_20 {hE : AH} {v : Nat} {r14 : Nat → Int32 → Int32 → AH → Option (Nat × AH)} (hr14 : ∀ (b0 : Nat) (b3 : Int32) (b4 : Int32) (h : AH), r14 b0 b3 b4 h = some (v, hE) → JD cX6_read 5 RX6 "read" (some (.object "LitmusHouse$Program")) (169) 14 [(0, .inr (.inr (b0))), (3, .inl (b3)), (4, .inl (b4))] [] h hE (some (.inr (.inr (v))))) {a0 : Nat} {a3 : Int32} {a4 : Int32} {h : AH} (hf : b_X6_read_20 r14 a0 a3 a4 h = some (v, hE)) : JD cX6_read 5 RX6 "read" (some (.object "LitmusHouse$Program")) (169) 20 [(0, .inr (.inr (a0))), (3, .inl (a3)), (4, .inl (a4))] [] h hE (some (.inr (.inr (v)))) := by
  unfold b_X6_read_20 at hf
  have mE : hp_n h ≤ hp_n hE ∧ hp_s h ≤ hp_s hE := by
    by_cases hc : a3 = 0
    · rw [if_pos hc] at hf; exact (q_X6_read_76 hf).1
    · rw [if_neg hc] at hf; exact (q_X6_read_24 hr14 hf).1
  refine ⟨by omega, fun X g K ok nmx lev hK en => ?_⟩
  refine tj_iload_n ok 1 dX6_read_20 rfl rfl ?_
  refine tj_if_eq (tgt := 76) ok dX6_read_21 (by decide) (fun hc => ?_) (fun hc => ?_)
  · rw [if_pos hc] at hf
    refine tj_sub (lv' := [(0, .inr (.inr (a0))), (3, .inl (a3))]) [0, 1] rfl ?_
    exact (q_X6_read_76 hf).2 X g K ok nmx lev hK en
  · rw [if_neg hc] at hf
    exact (q_X6_read_24 hr14 hf).2 X g K ok nmx lev hK en
def b_X6_read_14 (r14 : Nat → Int32 → Int32 → AH → Option (Nat × AH)) (a0 : Nat) (a3 : Int32) (a4 : Int32) (h : AH) : Option (Nat × AH) :=
  if (4 : Int32) < a4 then b_X6_read_76 a0 a3 h else b_X6_read_20 r14 a0 a3 a4 h
set_option maxHeartbeats 4000000 in
set_option maxRecDepth 100000 in
theorem q_X6_read_14 {hE : AH} {v : Nat} {r14 : Nat → Int32 → Int32 → AH → Option (Nat × AH)} (hr14 : ∀ (b0 : Nat) (b3 : Int32) (b4 : Int32) (h : AH), r14 b0 b3 b4 h = some (v, hE) → JD cX6_read 5 RX6 "read" (some (.object "LitmusHouse$Program")) (169) 14 [(0, .inr (.inr (b0))), (3, .inl (b3)), (4, .inl (b4))] [] h hE (some (.inr (.inr (v))))) {a0 : Nat} {a3 : Int32} {a4 : Int32} {h : AH} (hf : b_X6_read_14 r14 a0 a3 a4 h = some (v, hE)) : JD cX6_read 5 RX6 "read" (some (.object "LitmusHouse$Program")) (169) 14 [(0, .inr (.inr (a0))), (3, .inl (a3)), (4, .inl (a4))] [] h hE (some (.inr (.inr (v)))) := by
  unfold b_X6_read_14 at hf
  have mE : hp_n h ≤ hp_n hE ∧ hp_s h ≤ hp_s hE := by
    by_cases hc : (4 : Int32) < a4
    · rw [if_pos hc] at hf; exact (q_X6_read_76 hf).1
    · rw [if_neg hc] at hf; exact (q_X6_read_20 hr14 hf).1
  refine ⟨by omega, fun X g K ok nmx lev hK en => ?_⟩
  refine tj_iload ok 2 dX6_read_14 rfl ?_
  refine tj_iconst (v := 4) ok dX6_read_16 (by decide) ?_
  refine tj_icmp_gt (tgt := 76) ok dX6_read_17 (by decide) (fun hc => ?_) (fun hc => ?_)
  · rw [if_pos hc] at hf
    refine tj_sub (lv' := [(0, .inr (.inr (a0))), (3, .inl (a3))]) [0, 1] rfl ?_
    exact (q_X6_read_76 hf).2 X g K ok nmx lev hK en
  · rw [if_neg hc] at hf
    exact (q_X6_read_20 hr14 hf).2 X g K ok nmx lev hK en
def l_X6_read_14 : Nat → Nat → Int32 → Int32 → AH → Option (Nat × AH)
  | 0 => fun _ _ _ _ => none
  | n + 1 => fun a0 a3 a4 h => b_X6_read_14 (l_X6_read_14 n) a0 a3 a4 h
theorem ql_X6_read_14 {n : Nat} {a0 : Nat} {a3 : Int32} {a4 : Int32} {h hE : AH} {v : Nat} (hf : l_X6_read_14 n a0 a3 a4 h = some (v, hE)) : JD cX6_read 5 RX6 "read" (some (.object "LitmusHouse$Program")) (169) 14 [(0, .inr (.inr (a0))), (3, .inl (a3)), (4, .inl (a4))] [] h hE (some (.inr (.inr (v)))) := by
  induction n generalizing a0 a3 a4 h with
  | zero => cases hf
  | succ n ih => exact q_X6_read_14 (fun _ _ _ _ hf => ih hf) hf
def b_X6_read_0 (a0 : Nat) (a1 : Nat) (a2 : Int32) (h : AH) : Option (Nat × AH) :=
  (ok_v h a0 6).bind fun x1 => (f_X6_begin a0 a1 a2 h).bind fun h2 => (ok_v h2 a0 6).bind fun x3 => (f_X6_readDeclarations a0 h2).bind fun q4 => l_X6_read_14 fu_ a0 q4.1 (0 : Int32) q4.2
set_option maxHeartbeats 4000000 in
set_option maxRecDepth 100000 in
theorem q_X6_read_0 {a0 : Nat} {a1 : Nat} {a2 : Int32} {h hE : AH} {v : Nat} (hf : b_X6_read_0 a0 a1 a2 h = some (v, hE)) : JD cX6_read 5 RX6 "read" (some (.object "LitmusHouse$Program")) (169) 0 [(0, .inr (.inr (a0))), (1, .inr (.inr (a1))), (2, .inl (a2))] [] h hE (some (.inr (.inr (v)))) := by
  unfold b_X6_read_0 at hf
  obtain ⟨x1, e1, hf⟩ := bnd hf
  obtain ⟨h2, e2, hf⟩ := bnd hf
  have k2 := c_X6_begin e2
  have m2 := (k2 default_g).1
  obtain ⟨x3, e3, hf⟩ := bnd hf
  obtain ⟨⟨x4, h4⟩, e4, hf⟩ := bnd hf
  try dsimp only at hf
  have k4 := c_X6_readDeclarations e4
  have m4 := (k4 default_g).1
  have J := ql_X6_read_14 hf
  have mE := J.1
  refine ⟨by omega, fun X g K ok nmx lev hK en => ?_⟩
  refine tj_aload_n ok 0 dX6_read_0 rfl rfl ?_
  refine tj_aload_n ok 1 dX6_read_1 rfl rfl ?_
  refine tj_iload_n ok 2 dX6_read_2 rfl rfl ?_
  refine tj_callV (rest := ([] : List TV).map (vl g)) (as := [.inr (.inr (a1)), .inl (a2)]) ok lev (by omega) fcX6.1 (by decide) rfl (of_if e1).1 (k2 g) (CaX.of en (by omega)) kn_X6_begin wm_1149 wm_1150 wm_1151 (rs_ok (Nat.le_of_ble_eq_true rfl)) rfl rfl dX6_read_3 ?_
  refine tj_aload_n ok 0 dX6_read_6 rfl rfl ?_
  refine tj_callV (rest := ([] : List TV).map (vl g)) (as := []) ok lev (by omega) fcX6.1 (by decide) rfl (of_if e3).1 (k4 g) (CaX.of en (by omega)) kn_X6_readDeclarations wm_1152 wm_1153 wm_1154 (rs_ok (Nat.le_of_ble_eq_true rfl)) rfl rfl dX6_read_7 ?_
  refine tj_istore_n (lv' := [(0, .inr (.inr (a0))), (1, .inr (.inr (a1))), (2, .inl (a2)), (3, .inl (x4))]) ok dX6_read_10 rfl (by decide) rfl ?_
  refine tj_iconst (v := 0) ok dX6_read_11 (by decide) ?_
  refine tj_istore (lv' := [(0, .inr (.inr (a0))), (1, .inr (.inr (a1))), (2, .inl (a2)), (3, .inl (x4)), (4, .inl ((0 : Int32)))]) ok dX6_read_12 (by decide) rfl ?_
  refine tj_sub (lv' := [(0, .inr (.inr (a0))), (3, .inl (x4)), (4, .inl ((0 : Int32)))]) [0, 3, 4] rfl ?_
  exact J.2 X g K ok nmx lev hK en
def f_X6_read (a0 : Nat) (a1 : Nat) (a2 : Int32) (h : AH) : Option (Nat × AH) := b_X6_read_0  a0 a1 a2 h
theorem c_X6_read {a0 : Nat} {a1 : Nat} {a2 : Int32} {h hE : AH} {v : Nat} (hf : f_X6_read a0 a1 a2 h = some (v, hE)) : ∀ g : GT, CM g (169) yX6_read cX6_read 5 (some (.object "LitmusHouse$Program")) h [.inr (.inr (a0)), .inr (.inr (a1)), .inl (a2)] hE (some (.inr (.inr (v)))) :=
  CM.ofJ (by decide) (by show _ ≤ 5; exact Nat.le_of_ble_eq_true rfl) (q_X6_read_0 hf)
