theorem dX4_init_0 : decode cX4_init 0 = .ok (.aload_n 0, 1) := by decide +kernel
theorem dX4_init_1 : decode cX4_init 1 = .ok (.invokespecial 3, 3) := by decide +kernel
theorem dX4_init_4 : decode cX4_init 4 = .ok (.aload_n 0, 1) := by decide +kernel
theorem dX4_init_5 : decode cX4_init 5 = .ok (.iconst 0, 1) := by decide +kernel
theorem dX4_init_6 : decode cX4_init 6 = .ok (.putfield 9, 3) := by decide +kernel
theorem dX4_init_9 : decode cX4_init 9 = .ok (.aload_n 0, 1) := by decide +kernel
theorem dX4_init_10 : decode cX4_init 10 = .ok (.sipush 1000, 3) := by decide +kernel
theorem dX4_init_13 : decode cX4_init 13 = .ok (.newarray .int, 2) := by decide +kernel
theorem dX4_init_15 : decode cX4_init 15 = .ok (.putfield 15, 3) := by decide +kernel
theorem dX4_init_18 : decode cX4_init 18 = .ok (.aload_n 0, 1) := by decide +kernel
theorem dX4_init_19 : decode cX4_init 19 = .ok (.iconst 1, 1) := by decide +kernel
theorem dX4_init_20 : decode cX4_init 20 = .ok (.putfield 19, 3) := by decide +kernel
theorem dX4_init_23 : decode cX4_init 23 = .ok (.return_, 1) := by decide +kernel
theorem dX4_byteAt_0 : decode cX4_byteAt 0 = .ok (.iload_n 1, 1) := by decide +kernel
theorem dX4_byteAt_1 : decode cX4_byteAt 1 = .ok (.ifCond .lt 27, 3) := by decide +kernel
theorem dX4_byteAt_4 : decode cX4_byteAt 4 = .ok (.iload_n 1, 1) := by decide +kernel
theorem dX4_byteAt_5 : decode cX4_byteAt 5 = .ok (.aload_n 0, 1) := by decide +kernel
theorem dX4_byteAt_6 : decode cX4_byteAt 6 = .ok (.getfield 9, 3) := by decide +kernel
theorem dX4_byteAt_9 : decode cX4_byteAt 9 = .ok (.if_icmp .ge 19, 3) := by decide +kernel
theorem dX4_byteAt_12 : decode cX4_byteAt 12 = .ok (.iload_n 1, 1) := by decide +kernel
theorem dX4_byteAt_13 : decode cX4_byteAt 13 = .ok (.sipush 1000, 3) := by decide +kernel
theorem dX4_byteAt_16 : decode cX4_byteAt 16 = .ok (.if_icmp .ge 12, 3) := by decide +kernel
theorem dX4_byteAt_19 : decode cX4_byteAt 19 = .ok (.aload_n 0, 1) := by decide +kernel
theorem dX4_byteAt_20 : decode cX4_byteAt 20 = .ok (.getfield 15, 3) := by decide +kernel
theorem dX4_byteAt_23 : decode cX4_byteAt 23 = .ok (.iload_n 1, 1) := by decide +kernel
theorem dX4_byteAt_24 : decode cX4_byteAt 24 = .ok (.iaload, 1) := by decide +kernel
theorem dX4_byteAt_25 : decode cX4_byteAt 25 = .ok (.goto 4, 3) := by decide +kernel
theorem dX4_byteAt_28 : decode cX4_byteAt 28 = .ok (.iconst (-1), 1) := by decide +kernel
theorem dX4_byteAt_29 : decode cX4_byteAt 29 = .ok (.ireturn, 1) := by decide +kernel
theorem dX4_put_0 : decode cX4_put 0 = .ok (.aload_n 0, 1) := by decide +kernel
theorem dX4_put_1 : decode cX4_put 1 = .ok (.getfield 9, 3) := by decide +kernel
theorem dX4_put_4 : decode cX4_put 4 = .ok (.sipush 1000, 3) := by decide +kernel
theorem dX4_put_7 : decode cX4_put 7 = .ok (.if_icmp .ge 23, 3) := by decide +kernel
theorem dX4_put_10 : decode cX4_put 10 = .ok (.aload_n 0, 1) := by decide +kernel
theorem dX4_put_11 : decode cX4_put 11 = .ok (.getfield 15, 3) := by decide +kernel
theorem dX4_put_14 : decode cX4_put 14 = .ok (.aload_n 0, 1) := by decide +kernel
theorem dX4_put_15 : decode cX4_put 15 = .ok (.getfield 9, 3) := by decide +kernel
theorem dX4_put_18 : decode cX4_put 18 = .ok (.iload_n 1, 1) := by decide +kernel
theorem dX4_put_19 : decode cX4_put 19 = .ok (.iastore, 1) := by decide +kernel
theorem dX4_put_20 : decode cX4_put 20 = .ok (.aload_n 0, 1) := by decide +kernel
theorem dX4_put_21 : decode cX4_put 21 = .ok (.dup, 1) := by decide +kernel
theorem dX4_put_22 : decode cX4_put 22 = .ok (.getfield 9, 3) := by decide +kernel
theorem dX4_put_25 : decode cX4_put 25 = .ok (.iconst 1, 1) := by decide +kernel
theorem dX4_put_26 : decode cX4_put 26 = .ok (.iadd, 1) := by decide +kernel
theorem dX4_put_27 : decode cX4_put 27 = .ok (.putfield 9, 3) := by decide +kernel
theorem dX4_put_30 : decode cX4_put 30 = .ok (.aload_n 0, 1) := by decide +kernel
theorem dX4_put_31 : decode cX4_put 31 = .ok (.iconst 0, 1) := by decide +kernel
theorem dX4_put_32 : decode cX4_put 32 = .ok (.putfield 19, 3) := by decide +kernel
theorem dX4_put_35 : decode cX4_put 35 = .ok (.return_, 1) := by decide +kernel
theorem dX4_endLine_0 : decode cX4_endLine 0 = .ok (.aload_n 0, 1) := by decide +kernel
theorem dX4_endLine_1 : decode cX4_endLine 1 = .ok (.bipush 10, 2) := by decide +kernel
theorem dX4_endLine_3 : decode cX4_endLine 3 = .ok (.invokevirtual 121, 3) := by decide +kernel
theorem dX4_endLine_6 : decode cX4_endLine 6 = .ok (.aload_n 0, 1) := by decide +kernel
theorem dX4_endLine_7 : decode cX4_endLine 7 = .ok (.iconst 1, 1) := by decide +kernel
theorem dX4_endLine_8 : decode cX4_endLine 8 = .ok (.putfield 19, 3) := by decide +kernel
theorem dX4_endLine_11 : decode cX4_endLine 11 = .ok (.return_, 1) := by decide +kernel
theorem dX4_endStatement_0 : decode cX4_endStatement 0 = .ok (.aload_n 0, 1) := by decide +kernel
theorem dX4_endStatement_1 : decode cX4_endStatement 1 = .ok (.bipush 59, 2) := by decide +kernel
theorem dX4_endStatement_3 : decode cX4_endStatement 3 = .ok (.invokevirtual 121, 3) := by decide +kernel
theorem dX4_endStatement_6 : decode cX4_endStatement 6 = .ok (.aload_n 0, 1) := by decide +kernel
theorem dX4_endStatement_7 : decode cX4_endStatement 7 = .ok (.invokevirtual 70, 3) := by decide +kernel
theorem dX4_endStatement_10 : decode cX4_endStatement 10 = .ok (.return_, 1) := by decide +kernel
theorem dX4_putGap_0 : decode cX4_putGap 0 = .ok (.aload_n 0, 1) := by decide +kernel
theorem dX4_putGap_1 : decode cX4_putGap 1 = .ok (.getfield 19, 3) := by decide +kernel
theorem dX4_putGap_4 : decode cX4_putGap 4 = .ok (.ifCond .ne 9, 3) := by decide +kernel
theorem dX4_putGap_7 : decode cX4_putGap 7 = .ok (.aload_n 0, 1) := by decide +kernel
theorem dX4_putGap_8 : decode cX4_putGap 8 = .ok (.bipush 32, 2) := by decide +kernel
theorem dX4_putGap_10 : decode cX4_putGap 10 = .ok (.invokevirtual 121, 3) := by decide +kernel
theorem dX4_putGap_13 : decode cX4_putGap 13 = .ok (.return_, 1) := by decide +kernel
theorem dX4_writeSign_0 : decode cX4_writeSign 0 = .ok (.aload_n 0, 1) := by decide +kernel
theorem dX4_writeSign_1 : decode cX4_writeSign 1 = .ok (.invokevirtual 126, 3) := by decide +kernel
theorem dX4_writeSign_4 : decode cX4_writeSign 4 = .ok (.aload_n 0, 1) := by decide +kernel
theorem dX4_writeSign_5 : decode cX4_writeSign 5 = .ok (.iload_n 1, 1) := by decide +kernel
theorem dX4_writeSign_6 : decode cX4_writeSign 6 = .ok (.invokevirtual 121, 3) := by decide +kernel
theorem dX4_writeSign_9 : decode cX4_writeSign 9 = .ok (.return_, 1) := by decide +kernel
theorem dX4_writeWord_0 : decode cX4_writeWord 0 = .ok (.aload_n 0, 1) := by decide +kernel
theorem dX4_writeWord_1 : decode cX4_writeWord 1 = .ok (.invokevirtual 126, 3) := by decide +kernel
theorem dX4_writeWord_4 : decode cX4_writeWord 4 = .ok (.iconst 0, 1) := by decide +kernel
theorem dX4_writeWord_5 : decode cX4_writeWord 5 = .ok (.istore_n 2, 1) := by decide +kernel
theorem dX4_writeWord_6 : decode cX4_writeWord 6 = .ok (.iload_n 2, 1) := by decide +kernel
theorem dX4_writeWord_7 : decode cX4_writeWord 7 = .ok (.aload_n 1, 1) := by decide +kernel
theorem dX4_writeWord_8 : decode cX4_writeWord 8 = .ok (.invokevirtual 129, 3) := by decide +kernel
theorem dX4_writeWord_11 : decode cX4_writeWord 11 = .ok (.if_icmp .ge 18, 3) := by decide +kernel
theorem dX4_writeWord_14 : decode cX4_writeWord 14 = .ok (.aload_n 0, 1) := by decide +kernel
theorem dX4_writeWord_15 : decode cX4_writeWord 15 = .ok (.aload_n 1, 1) := by decide +kernel
theorem dX4_writeWord_16 : decode cX4_writeWord 16 = .ok (.iload_n 2, 1) := by decide +kernel
theorem dX4_writeWord_17 : decode cX4_writeWord 17 = .ok (.invokevirtual 135, 3) := by decide +kernel
theorem dX4_writeWord_20 : decode cX4_writeWord 20 = .ok (.invokevirtual 121, 3) := by decide +kernel
theorem dX4_writeWord_23 : decode cX4_writeWord 23 = .ok (.iinc 2 1, 3) := by decide +kernel
theorem dX4_writeWord_26 : decode cX4_writeWord 26 = .ok (.goto (-20), 3) := by decide +kernel
theorem dX4_writeWord_29 : decode cX4_writeWord 29 = .ok (.return_, 1) := by decide +kernel
theorem dX4_writeDeclaration_0 : decode cX4_writeDeclaration 0 = .ok (.iload_n 2, 1) := by decide +kernel
theorem dX4_writeDeclaration_1 : decode cX4_writeDeclaration 1 = .ok (.ifCond .ne 4, 3) := by decide +kernel
theorem dX4_writeDeclaration_4 : decode cX4_writeDeclaration 4 = .ok (.return_, 1) := by decide +kernel
theorem dX4_writeDeclaration_5 : decode cX4_writeDeclaration 5 = .ok (.aload_n 0, 1) := by decide +kernel
theorem dX4_writeDeclaration_6 : decode cX4_writeDeclaration 6 = .ok (.aload_n 1, 1) := by decide +kernel
theorem dX4_writeDeclaration_7 : decode cX4_writeDeclaration 7 = .ok (.invokevirtual 55, 3) := by decide +kernel
theorem dX4_writeDeclaration_10 : decode cX4_writeDeclaration 10 = .ok (.iconst 0, 1) := by decide +kernel
theorem dX4_writeDeclaration_11 : decode cX4_writeDeclaration 11 = .ok (.istore_n 3, 1) := by decide +kernel
theorem dX4_writeDeclaration_12 : decode cX4_writeDeclaration 12 = .ok (.iload_n 3, 1) := by decide +kernel
theorem dX4_writeDeclaration_13 : decode cX4_writeDeclaration 13 = .ok (.bipush 6, 2) := by decide +kernel
theorem dX4_writeDeclaration_15 : decode cX4_writeDeclaration 15 = .ok (.if_icmp .ge 25, 3) := by decide +kernel
theorem dX4_writeDeclaration_18 : decode cX4_writeDeclaration 18 = .ok (.iload_n 2, 1) := by decide +kernel
theorem dX4_writeDeclaration_19 : decode cX4_writeDeclaration 19 = .ok (.iload_n 3, 1) := by decide +kernel
theorem dX4_writeDeclaration_20 : decode cX4_writeDeclaration 20 = .ok (.ishr, 1) := by decide +kernel
theorem dX4_writeDeclaration_21 : decode cX4_writeDeclaration 21 = .ok (.iconst 1, 1) := by decide +kernel
theorem dX4_writeDeclaration_22 : decode cX4_writeDeclaration 22 = .ok (.iand, 1) := by decide +kernel
theorem dX4_writeDeclaration_23 : decode cX4_writeDeclaration 23 = .ok (.ifCond .eq 11, 3) := by decide +kernel
theorem dX4_writeDeclaration_26 : decode cX4_writeDeclaration 26 = .ok (.aload_n 0, 1) := by decide +kernel
theorem dX4_writeDeclaration_27 : decode cX4_writeDeclaration 27 = .ok (.bipush 117, 2) := by decide +kernel
theorem dX4_writeDeclaration_29 : decode cX4_writeDeclaration 29 = .ok (.iload_n 3, 1) := by decide +kernel
theorem dX4_writeDeclaration_30 : decode cX4_writeDeclaration 30 = .ok (.iadd, 1) := by decide +kernel
theorem dX4_writeDeclaration_31 : decode cX4_writeDeclaration 31 = .ok (.invokevirtual 59, 3) := by decide +kernel
theorem dX4_writeDeclaration_34 : decode cX4_writeDeclaration 34 = .ok (.iinc 3 1, 3) := by decide +kernel
theorem dX4_writeDeclaration_37 : decode cX4_writeDeclaration 37 = .ok (.goto (-25), 3) := by decide +kernel
theorem dX4_writeDeclaration_40 : decode cX4_writeDeclaration 40 = .ok (.aload_n 0, 1) := by decide +kernel
theorem dX4_writeDeclaration_41 : decode cX4_writeDeclaration 41 = .ok (.invokevirtual 63, 3) := by decide +kernel
theorem dX4_writeDeclaration_44 : decode cX4_writeDeclaration 44 = .ok (.return_, 1) := by decide +kernel
theorem dX4_writeName_0 : decode cX4_writeName 0 = .ok (.aload_n 0, 1) := by decide +kernel
theorem dX4_writeName_1 : decode cX4_writeName 1 = .ok (.invokevirtual 126, 3) := by decide +kernel
theorem dX4_writeName_4 : decode cX4_writeName 4 = .ok (.aload_n 0, 1) := by decide +kernel
theorem dX4_writeName_5 : decode cX4_writeName 5 = .ok (.iload_n 1, 1) := by decide +kernel
theorem dX4_writeName_6 : decode cX4_writeName 6 = .ok (.invokevirtual 121, 3) := by decide +kernel
theorem dX4_writeName_9 : decode cX4_writeName 9 = .ok (.aload_n 0, 1) := by decide +kernel
theorem dX4_writeName_10 : decode cX4_writeName 10 = .ok (.bipush 48, 2) := by decide +kernel
theorem dX4_writeName_12 : decode cX4_writeName 12 = .ok (.iload_n 2, 1) := by decide +kernel
theorem dX4_writeName_13 : decode cX4_writeName 13 = .ok (.iadd, 1) := by decide +kernel
theorem dX4_writeName_14 : decode cX4_writeName 14 = .ok (.invokevirtual 121, 3) := by decide +kernel
theorem dX4_writeName_17 : decode cX4_writeName 17 = .ok (.return_, 1) := by decide +kernel
theorem dX4_writeAssignment_0 : decode cX4_writeAssignment 0 = .ok (.iload_n 2, 1) := by decide +kernel
theorem dX4_writeAssignment_1 : decode cX4_writeAssignment 1 = .ok (.bipush 63, 2) := by decide +kernel
theorem dX4_writeAssignment_3 : decode cX4_writeAssignment 3 = .ok (.iand, 1) := by decide +kernel
theorem dX4_writeAssignment_4 : decode cX4_writeAssignment 4 = .ok (.istore_n 3, 1) := by decide +kernel
theorem dX4_writeAssignment_5 : decode cX4_writeAssignment 5 = .ok (.aload_n 1, 1) := by decide +kernel
theorem dX4_writeAssignment_6 : decode cX4_writeAssignment 6 = .ok (.getfield 80, 3) := by decide +kernel
theorem dX4_writeAssignment_9 : decode cX4_writeAssignment 9 = .ok (.iload_n 3, 1) := by decide +kernel
theorem dX4_writeAssignment_10 : decode cX4_writeAssignment 10 = .ok (.iaload, 1) := by decide +kernel
theorem dX4_writeAssignment_11 : decode cX4_writeAssignment 11 = .ok (.istore 4, 2) := by decide +kernel
theorem dX4_writeAssignment_13 : decode cX4_writeAssignment 13 = .ok (.iload 4, 2) := by decide +kernel
theorem dX4_writeAssignment_15 : decode cX4_writeAssignment 15 = .ok (.iconst 1, 1) := by decide +kernel
theorem dX4_writeAssignment_16 : decode cX4_writeAssignment 16 = .ok (.if_icmp .ne 19, 3) := by decide +kernel
theorem dX4_writeAssignment_19 : decode cX4_writeAssignment 19 = .ok (.aload_n 0, 1) := by decide +kernel
theorem dX4_writeAssignment_20 : decode cX4_writeAssignment 20 = .ok (.bipush 117, 2) := by decide +kernel
theorem dX4_writeAssignment_22 : decode cX4_writeAssignment 22 = .ok (.aload_n 1, 1) := by decide +kernel
theorem dX4_writeAssignment_23 : decode cX4_writeAssignment 23 = .ok (.getfield 92, 3) := by decide +kernel
theorem dX4_writeAssignment_26 : decode cX4_writeAssignment 26 = .ok (.iload_n 3, 1) := by decide +kernel
theorem dX4_writeAssignment_27 : decode cX4_writeAssignment 27 = .ok (.iaload, 1) := by decide +kernel
theorem dX4_writeAssignment_28 : decode cX4_writeAssignment 28 = .ok (.iadd, 1) := by decide +kernel
theorem dX4_writeAssignment_29 : decode cX4_writeAssignment 29 = .ok (.invokevirtual 59, 3) := by decide +kernel
theorem dX4_writeAssignment_32 : decode cX4_writeAssignment 32 = .ok (.goto 15, 3) := by decide +kernel
theorem dX4_writeAssignment_35 : decode cX4_writeAssignment 35 = .ok (.aload_n 0, 1) := by decide +kernel
theorem dX4_writeAssignment_36 : decode cX4_writeAssignment 36 = .ok (.bipush 114, 2) := by decide +kernel
theorem dX4_writeAssignment_38 : decode cX4_writeAssignment 38 = .ok (.aload_n 1, 1) := by decide +kernel
theorem dX4_writeAssignment_39 : decode cX4_writeAssignment 39 = .ok (.getfield 103, 3) := by decide +kernel
theorem dX4_writeAssignment_42 : decode cX4_writeAssignment 42 = .ok (.iload_n 3, 1) := by decide +kernel
theorem dX4_writeAssignment_43 : decode cX4_writeAssignment 43 = .ok (.iaload, 1) := by decide +kernel
theorem dX4_writeAssignment_44 : decode cX4_writeAssignment 44 = .ok (.invokevirtual 95, 3) := by decide +kernel
theorem dX4_writeAssignment_47 : decode cX4_writeAssignment 47 = .ok (.aload_n 0, 1) := by decide +kernel
theorem dX4_writeAssignment_48 : decode cX4_writeAssignment 48 = .ok (.ldc 116, 2) := by decide +kernel
theorem dX4_writeAssignment_50 : decode cX4_writeAssignment 50 = .ok (.invokevirtual 55, 3) := by decide +kernel
theorem dX4_writeAssignment_53 : decode cX4_writeAssignment 53 = .ok (.aload_n 1, 1) := by decide +kernel
theorem dX4_writeAssignment_54 : decode cX4_writeAssignment 54 = .ok (.getfield 118, 3) := by decide +kernel
theorem dX4_writeAssignment_57 : decode cX4_writeAssignment 57 = .ok (.iload_n 3, 1) := by decide +kernel
theorem dX4_writeAssignment_58 : decode cX4_writeAssignment 58 = .ok (.iaload, 1) := by decide +kernel
theorem dX4_writeAssignment_59 : decode cX4_writeAssignment 59 = .ok (.iconst (-1), 1) := by decide +kernel
theorem dX4_writeAssignment_60 : decode cX4_writeAssignment 60 = .ok (.if_icmp .eq 15, 3) := by decide +kernel
theorem dX4_writeAssignment_63 : decode cX4_writeAssignment 63 = .ok (.aload_n 0, 1) := by decide +kernel
theorem dX4_writeAssignment_64 : decode cX4_writeAssignment 64 = .ok (.bipush 114, 2) := by decide +kernel
theorem dX4_writeAssignment_66 : decode cX4_writeAssignment 66 = .ok (.aload_n 1, 1) := by decide +kernel
theorem dX4_writeAssignment_67 : decode cX4_writeAssignment 67 = .ok (.getfield 118, 3) := by decide +kernel
theorem dX4_writeAssignment_70 : decode cX4_writeAssignment 70 = .ok (.iload_n 3, 1) := by decide +kernel
theorem dX4_writeAssignment_71 : decode cX4_writeAssignment 71 = .ok (.iaload, 1) := by decide +kernel
theorem dX4_writeAssignment_72 : decode cX4_writeAssignment 72 = .ok (.invokevirtual 95, 3) := by decide +kernel
theorem dX4_writeAssignment_75 : decode cX4_writeAssignment 75 = .ok (.iload 4, 2) := by decide +kernel
theorem dX4_writeAssignment_77 : decode cX4_writeAssignment 77 = .ok (.ifCond .ne 19, 3) := by decide +kernel
theorem dX4_writeAssignment_80 : decode cX4_writeAssignment 80 = .ok (.aload_n 0, 1) := by decide +kernel
theorem dX4_writeAssignment_81 : decode cX4_writeAssignment 81 = .ok (.bipush 117, 2) := by decide +kernel
theorem dX4_writeAssignment_83 : decode cX4_writeAssignment 83 = .ok (.aload_n 1, 1) := by decide +kernel
theorem dX4_writeAssignment_84 : decode cX4_writeAssignment 84 = .ok (.getfield 92, 3) := by decide +kernel
theorem dX4_writeAssignment_87 : decode cX4_writeAssignment 87 = .ok (.iload_n 3, 1) := by decide +kernel
theorem dX4_writeAssignment_88 : decode cX4_writeAssignment 88 = .ok (.iaload, 1) := by decide +kernel
theorem dX4_writeAssignment_89 : decode cX4_writeAssignment 89 = .ok (.iadd, 1) := by decide +kernel
theorem dX4_writeAssignment_90 : decode cX4_writeAssignment 90 = .ok (.invokevirtual 59, 3) := by decide +kernel
theorem dX4_writeAssignment_93 : decode cX4_writeAssignment 93 = .ok (.goto 70, 3) := by decide +kernel
theorem dX4_writeAssignment_96 : decode cX4_writeAssignment 96 = .ok (.iload 4, 2) := by decide +kernel
theorem dX4_writeAssignment_98 : decode cX4_writeAssignment 98 = .ok (.iconst 2, 1) := by decide +kernel
theorem dX4_writeAssignment_99 : decode cX4_writeAssignment 99 = .ok (.if_icmp .ne 25, 3) := by decide +kernel
theorem dX4_writeAssignment_102 : decode cX4_writeAssignment 102 = .ok (.aload_n 0, 1) := by decide +kernel
theorem dX4_writeAssignment_103 : decode cX4_writeAssignment 103 = .ok (.bipush 46, 2) := by decide +kernel
theorem dX4_writeAssignment_105 : decode cX4_writeAssignment 105 = .ok (.invokevirtual 121, 3) := by decide +kernel
theorem dX4_writeAssignment_108 : decode cX4_writeAssignment 108 = .ok (.aload_n 0, 1) := by decide +kernel
theorem dX4_writeAssignment_109 : decode cX4_writeAssignment 109 = .ok (.bipush 117, 2) := by decide +kernel
theorem dX4_writeAssignment_111 : decode cX4_writeAssignment 111 = .ok (.aload_n 1, 1) := by decide +kernel
theorem dX4_writeAssignment_112 : decode cX4_writeAssignment 112 = .ok (.getfield 92, 3) := by decide +kernel
theorem dX4_writeAssignment_115 : decode cX4_writeAssignment 115 = .ok (.iload_n 3, 1) := by decide +kernel
theorem dX4_writeAssignment_116 : decode cX4_writeAssignment 116 = .ok (.iaload, 1) := by decide +kernel
theorem dX4_writeAssignment_117 : decode cX4_writeAssignment 117 = .ok (.iadd, 1) := by decide +kernel
theorem dX4_writeAssignment_118 : decode cX4_writeAssignment 118 = .ok (.invokevirtual 121, 3) := by decide +kernel
theorem dX4_writeAssignment_121 : decode cX4_writeAssignment 121 = .ok (.goto 42, 3) := by decide +kernel
theorem dX4_writeAssignment_124 : decode cX4_writeAssignment 124 = .ok (.aload_n 1, 1) := by decide +kernel
theorem dX4_writeAssignment_125 : decode cX4_writeAssignment 125 = .ok (.getfield 108, 3) := by decide +kernel
theorem dX4_writeAssignment_128 : decode cX4_writeAssignment 128 = .ok (.iload_n 3, 1) := by decide +kernel
theorem dX4_writeAssignment_129 : decode cX4_writeAssignment 129 = .ok (.iaload, 1) := by decide +kernel
theorem dX4_writeAssignment_130 : decode cX4_writeAssignment 130 = .ok (.iconst (-1), 1) := by decide +kernel
theorem dX4_writeAssignment_131 : decode cX4_writeAssignment 131 = .ok (.if_icmp .eq 32, 3) := by decide +kernel
theorem dX4_writeAssignment_134 : decode cX4_writeAssignment 134 = .ok (.aload_n 1, 1) := by decide +kernel
theorem dX4_writeAssignment_135 : decode cX4_writeAssignment 135 = .ok (.getfield 118, 3) := by decide +kernel
theorem dX4_writeAssignment_138 : decode cX4_writeAssignment 138 = .ok (.iload_n 3, 1) := by decide +kernel
theorem dX4_writeAssignment_139 : decode cX4_writeAssignment 139 = .ok (.iaload, 1) := by decide +kernel
theorem dX4_writeAssignment_140 : decode cX4_writeAssignment 140 = .ok (.iconst (-1), 1) := by decide +kernel
theorem dX4_writeAssignment_141 : decode cX4_writeAssignment 141 = .ok (.if_icmp .eq 9, 3) := by decide +kernel
theorem dX4_writeAssignment_144 : decode cX4_writeAssignment 144 = .ok (.aload_n 0, 1) := by decide +kernel
theorem dX4_writeAssignment_145 : decode cX4_writeAssignment 145 = .ok (.ldc 124, 2) := by decide +kernel
theorem dX4_writeAssignment_147 : decode cX4_writeAssignment 147 = .ok (.invokevirtual 55, 3) := by decide +kernel
theorem dX4_writeAssignment_150 : decode cX4_writeAssignment 150 = .ok (.aload_n 0, 1) := by decide +kernel
theorem dX4_writeAssignment_151 : decode cX4_writeAssignment 151 = .ok (.bipush 48, 2) := by decide +kernel
theorem dX4_writeAssignment_153 : decode cX4_writeAssignment 153 = .ok (.aload_n 1, 1) := by decide +kernel
theorem dX4_writeAssignment_154 : decode cX4_writeAssignment 154 = .ok (.getfield 108, 3) := by decide +kernel
theorem dX4_writeAssignment_157 : decode cX4_writeAssignment 157 = .ok (.iload_n 3, 1) := by decide +kernel
theorem dX4_writeAssignment_158 : decode cX4_writeAssignment 158 = .ok (.iaload, 1) := by decide +kernel
theorem dX4_writeAssignment_159 : decode cX4_writeAssignment 159 = .ok (.iadd, 1) := by decide +kernel
theorem dX4_writeAssignment_160 : decode cX4_writeAssignment 160 = .ok (.invokevirtual 59, 3) := by decide +kernel
theorem dX4_writeAssignment_163 : decode cX4_writeAssignment 163 = .ok (.aload_n 0, 1) := by decide +kernel
theorem dX4_writeAssignment_164 : decode cX4_writeAssignment 164 = .ok (.invokevirtual 63, 3) := by decide +kernel
theorem dX4_writeAssignment_167 : decode cX4_writeAssignment 167 = .ok (.return_, 1) := by decide +kernel
theorem dX4_writeEntry_0 : decode cX4_writeEntry 0 = .ok (.iload_n 2, 1) := by decide +kernel
theorem dX4_writeEntry_1 : decode cX4_writeEntry 1 = .ok (.bipush 63, 2) := by decide +kernel
theorem dX4_writeEntry_3 : decode cX4_writeEntry 3 = .ok (.iand, 1) := by decide +kernel
theorem dX4_writeEntry_4 : decode cX4_writeEntry 4 = .ok (.istore_n 3, 1) := by decide +kernel
theorem dX4_writeEntry_5 : decode cX4_writeEntry 5 = .ok (.aload_n 1, 1) := by decide +kernel
theorem dX4_writeEntry_6 : decode cX4_writeEntry 6 = .ok (.getfield 80, 3) := by decide +kernel
theorem dX4_writeEntry_9 : decode cX4_writeEntry 9 = .ok (.iload_n 3, 1) := by decide +kernel
theorem dX4_writeEntry_10 : decode cX4_writeEntry 10 = .ok (.iaload, 1) := by decide +kernel
theorem dX4_writeEntry_11 : decode cX4_writeEntry 11 = .ok (.tableswitch 170 3 9 #[41, 41, 81, 170, 94, 144, 157], 41) := by decide +kernel
theorem dX4_writeEntry_52 : decode cX4_writeEntry 52 = .ok (.aload_n 0, 1) := by decide +kernel
theorem dX4_writeEntry_53 : decode cX4_writeEntry 53 = .ok (.aload_n 1, 1) := by decide +kernel
theorem dX4_writeEntry_54 : decode cX4_writeEntry 54 = .ok (.getfield 80, 3) := by decide +kernel
theorem dX4_writeEntry_57 : decode cX4_writeEntry 57 = .ok (.iload_n 3, 1) := by decide +kernel
theorem dX4_writeEntry_58 : decode cX4_writeEntry 58 = .ok (.iaload, 1) := by decide +kernel
theorem dX4_writeEntry_59 : decode cX4_writeEntry 59 = .ok (.iconst 3, 1) := by decide +kernel
theorem dX4_writeEntry_60 : decode cX4_writeEntry 60 = .ok (.if_icmp .ne 8, 3) := by decide +kernel
theorem dX4_writeEntry_63 : decode cX4_writeEntry 63 = .ok (.ldc 88, 2) := by decide +kernel
theorem dX4_writeEntry_65 : decode cX4_writeEntry 65 = .ok (.goto 5, 3) := by decide +kernel
theorem dX4_writeEntry_68 : decode cX4_writeEntry 68 = .ok (.ldc 90, 2) := by decide +kernel
theorem dX4_writeEntry_70 : decode cX4_writeEntry 70 = .ok (.invokevirtual 55, 3) := by decide +kernel
theorem dX4_writeEntry_73 : decode cX4_writeEntry 73 = .ok (.aload_n 0, 1) := by decide +kernel
theorem dX4_writeEntry_74 : decode cX4_writeEntry 74 = .ok (.bipush 109, 2) := by decide +kernel
theorem dX4_writeEntry_76 : decode cX4_writeEntry 76 = .ok (.aload_n 1, 1) := by decide +kernel
theorem dX4_writeEntry_77 : decode cX4_writeEntry 77 = .ok (.getfield 92, 3) := by decide +kernel
theorem dX4_writeEntry_80 : decode cX4_writeEntry 80 = .ok (.iload_n 3, 1) := by decide +kernel
theorem dX4_writeEntry_81 : decode cX4_writeEntry 81 = .ok (.iaload, 1) := by decide +kernel
theorem dX4_writeEntry_82 : decode cX4_writeEntry 82 = .ok (.invokevirtual 95, 3) := by decide +kernel
theorem dX4_writeEntry_85 : decode cX4_writeEntry 85 = .ok (.aload_n 0, 1) := by decide +kernel
theorem dX4_writeEntry_86 : decode cX4_writeEntry 86 = .ok (.invokevirtual 63, 3) := by decide +kernel
theorem dX4_writeEntry_89 : decode cX4_writeEntry 89 = .ok (.goto 98, 3) := by decide +kernel
theorem dX4_writeEntry_92 : decode cX4_writeEntry 92 = .ok (.aload_n 0, 1) := by decide +kernel
theorem dX4_writeEntry_93 : decode cX4_writeEntry 93 = .ok (.ldc 99, 2) := by decide +kernel
theorem dX4_writeEntry_95 : decode cX4_writeEntry 95 = .ok (.invokevirtual 55, 3) := by decide +kernel
theorem dX4_writeEntry_98 : decode cX4_writeEntry 98 = .ok (.aload_n 0, 1) := by decide +kernel
theorem dX4_writeEntry_99 : decode cX4_writeEntry 99 = .ok (.invokevirtual 63, 3) := by decide +kernel
theorem dX4_writeEntry_102 : decode cX4_writeEntry 102 = .ok (.goto 85, 3) := by decide +kernel
theorem dX4_writeEntry_105 : decode cX4_writeEntry 105 = .ok (.aload_n 0, 1) := by decide +kernel
theorem dX4_writeEntry_106 : decode cX4_writeEntry 106 = .ok (.ldc 101, 2) := by decide +kernel
theorem dX4_writeEntry_108 : decode cX4_writeEntry 108 = .ok (.invokevirtual 55, 3) := by decide +kernel
theorem dX4_writeEntry_111 : decode cX4_writeEntry 111 = .ok (.aload_n 0, 1) := by decide +kernel
theorem dX4_writeEntry_112 : decode cX4_writeEntry 112 = .ok (.bipush 114, 2) := by decide +kernel
theorem dX4_writeEntry_114 : decode cX4_writeEntry 114 = .ok (.aload_n 1, 1) := by decide +kernel
theorem dX4_writeEntry_115 : decode cX4_writeEntry 115 = .ok (.getfield 103, 3) := by decide +kernel
theorem dX4_writeEntry_118 : decode cX4_writeEntry 118 = .ok (.iload_n 3, 1) := by decide +kernel
theorem dX4_writeEntry_119 : decode cX4_writeEntry 119 = .ok (.iaload, 1) := by decide +kernel
theorem dX4_writeEntry_120 : decode cX4_writeEntry 120 = .ok (.invokevirtual 95, 3) := by decide +kernel
theorem dX4_writeEntry_123 : decode cX4_writeEntry 123 = .ok (.aload_n 0, 1) := by decide +kernel
theorem dX4_writeEntry_124 : decode cX4_writeEntry 124 = .ok (.ldc 106, 2) := by decide +kernel
theorem dX4_writeEntry_126 : decode cX4_writeEntry 126 = .ok (.invokevirtual 55, 3) := by decide +kernel
theorem dX4_writeEntry_129 : decode cX4_writeEntry 129 = .ok (.aload_n 0, 1) := by decide +kernel
theorem dX4_writeEntry_130 : decode cX4_writeEntry 130 = .ok (.bipush 48, 2) := by decide +kernel
theorem dX4_writeEntry_132 : decode cX4_writeEntry 132 = .ok (.aload_n 1, 1) := by decide +kernel
theorem dX4_writeEntry_133 : decode cX4_writeEntry 133 = .ok (.getfield 108, 3) := by decide +kernel
theorem dX4_writeEntry_136 : decode cX4_writeEntry 136 = .ok (.iload_n 3, 1) := by decide +kernel
theorem dX4_writeEntry_137 : decode cX4_writeEntry 137 = .ok (.iaload, 1) := by decide +kernel
theorem dX4_writeEntry_138 : decode cX4_writeEntry 138 = .ok (.iadd, 1) := by decide +kernel
theorem dX4_writeEntry_139 : decode cX4_writeEntry 139 = .ok (.invokevirtual 59, 3) := by decide +kernel
theorem dX4_writeEntry_142 : decode cX4_writeEntry 142 = .ok (.aload_n 0, 1) := by decide +kernel
theorem dX4_writeEntry_143 : decode cX4_writeEntry 143 = .ok (.ldc 68, 2) := by decide +kernel
theorem dX4_writeEntry_145 : decode cX4_writeEntry 145 = .ok (.invokevirtual 55, 3) := by decide +kernel
theorem dX4_writeEntry_148 : decode cX4_writeEntry 148 = .ok (.aload_n 0, 1) := by decide +kernel
theorem dX4_writeEntry_149 : decode cX4_writeEntry 149 = .ok (.invokevirtual 70, 3) := by decide +kernel
theorem dX4_writeEntry_152 : decode cX4_writeEntry 152 = .ok (.goto 35, 3) := by decide +kernel
theorem dX4_writeEntry_155 : decode cX4_writeEntry 155 = .ok (.aload_n 0, 1) := by decide +kernel
theorem dX4_writeEntry_156 : decode cX4_writeEntry 156 = .ok (.ldc 111, 2) := by decide +kernel
theorem dX4_writeEntry_158 : decode cX4_writeEntry 158 = .ok (.invokevirtual 55, 3) := by decide +kernel
theorem dX4_writeEntry_161 : decode cX4_writeEntry 161 = .ok (.aload_n 0, 1) := by decide +kernel
theorem dX4_writeEntry_162 : decode cX4_writeEntry 162 = .ok (.invokevirtual 70, 3) := by decide +kernel
theorem dX4_writeEntry_165 : decode cX4_writeEntry 165 = .ok (.goto 22, 3) := by decide +kernel
theorem dX4_writeEntry_168 : decode cX4_writeEntry 168 = .ok (.aload_n 0, 1) := by decide +kernel
theorem dX4_writeEntry_169 : decode cX4_writeEntry 169 = .ok (.ldc 86, 2) := by decide +kernel
theorem dX4_writeEntry_171 : decode cX4_writeEntry 171 = .ok (.invokevirtual 55, 3) := by decide +kernel
theorem dX4_writeEntry_174 : decode cX4_writeEntry 174 = .ok (.aload_n 0, 1) := by decide +kernel
theorem dX4_writeEntry_175 : decode cX4_writeEntry 175 = .ok (.invokevirtual 70, 3) := by decide +kernel
theorem dX4_writeEntry_178 : decode cX4_writeEntry 178 = .ok (.goto 9, 3) := by decide +kernel
theorem dX4_writeEntry_181 : decode cX4_writeEntry 181 = .ok (.aload_n 0, 1) := by decide +kernel
theorem dX4_writeEntry_182 : decode cX4_writeEntry 182 = .ok (.aload_n 1, 1) := by decide +kernel
theorem dX4_writeEntry_183 : decode cX4_writeEntry 183 = .ok (.iload_n 3, 1) := by decide +kernel
theorem dX4_writeEntry_184 : decode cX4_writeEntry 184 = .ok (.invokevirtual 113, 3) := by decide +kernel
theorem dX4_writeEntry_187 : decode cX4_writeEntry 187 = .ok (.return_, 1) := by decide +kernel
theorem dX4_writeThread_0 : decode cX4_writeThread 0 = .ok (.aload_n 0, 1) := by decide +kernel
theorem dX4_writeThread_1 : decode cX4_writeThread 1 = .ok (.ldc 66, 2) := by decide +kernel
theorem dX4_writeThread_3 : decode cX4_writeThread 3 = .ok (.invokevirtual 55, 3) := by decide +kernel
theorem dX4_writeThread_6 : decode cX4_writeThread 6 = .ok (.aload_n 0, 1) := by decide +kernel
theorem dX4_writeThread_7 : decode cX4_writeThread 7 = .ok (.ldc 68, 2) := by decide +kernel
theorem dX4_writeThread_9 : decode cX4_writeThread 9 = .ok (.invokevirtual 55, 3) := by decide +kernel
theorem dX4_writeThread_12 : decode cX4_writeThread 12 = .ok (.aload_n 0, 1) := by decide +kernel
theorem dX4_writeThread_13 : decode cX4_writeThread 13 = .ok (.invokevirtual 70, 3) := by decide +kernel
theorem dX4_writeThread_16 : decode cX4_writeThread 16 = .ok (.iload_n 2, 1) := by decide +kernel
theorem dX4_writeThread_17 : decode cX4_writeThread 17 = .ok (.iconst 0, 1) := by decide +kernel
theorem dX4_writeThread_18 : decode cX4_writeThread 18 = .ok (.invokestatic 73, 3) := by decide +kernel
theorem dX4_writeThread_21 : decode cX4_writeThread 21 = .ok (.istore_n 3, 1) := by decide +kernel
theorem dX4_writeThread_22 : decode cX4_writeThread 22 = .ok (.iload_n 3, 1) := by decide +kernel
theorem dX4_writeThread_23 : decode cX4_writeThread 23 = .ok (.aload_n 1, 1) := by decide +kernel
theorem dX4_writeThread_24 : decode cX4_writeThread 24 = .ok (.getfield 79, 3) := by decide +kernel
theorem dX4_writeThread_27 : decode cX4_writeThread 27 = .ok (.if_icmp .ge 35, 3) := by decide +kernel
theorem dX4_writeThread_30 : decode cX4_writeThread 30 = .ok (.iload_n 3, 1) := by decide +kernel
theorem dX4_writeThread_31 : decode cX4_writeThread 31 = .ok (.bipush 64, 2) := by decide +kernel
theorem dX4_writeThread_33 : decode cX4_writeThread 33 = .ok (.if_icmp .ge 29, 3) := by decide +kernel
theorem dX4_writeThread_36 : decode cX4_writeThread 36 = .ok (.aload_n 1, 1) := by decide +kernel
theorem dX4_writeThread_37 : decode cX4_writeThread 37 = .ok (.getfield 80, 3) := by decide +kernel
theorem dX4_writeThread_40 : decode cX4_writeThread 40 = .ok (.iload_n 3, 1) := by decide +kernel
theorem dX4_writeThread_41 : decode cX4_writeThread 41 = .ok (.iaload, 1) := by decide +kernel
theorem dX4_writeThread_42 : decode cX4_writeThread 42 = .ok (.bipush 10, 2) := by decide +kernel
theorem dX4_writeThread_44 : decode cX4_writeThread 44 = .ok (.if_icmp .ne 6, 3) := by decide +kernel
theorem dX4_writeThread_47 : decode cX4_writeThread 47 = .ok (.goto 15, 3) := by decide +kernel
theorem dX4_writeThread_50 : decode cX4_writeThread 50 = .ok (.aload_n 0, 1) := by decide +kernel
theorem dX4_writeThread_51 : decode cX4_writeThread 51 = .ok (.aload_n 1, 1) := by decide +kernel
theorem dX4_writeThread_52 : decode cX4_writeThread 52 = .ok (.iload_n 3, 1) := by decide +kernel
theorem dX4_writeThread_53 : decode cX4_writeThread 53 = .ok (.invokevirtual 83, 3) := by decide +kernel
theorem dX4_writeThread_56 : decode cX4_writeThread 56 = .ok (.iinc 3 1, 3) := by decide +kernel
theorem dX4_writeThread_59 : decode cX4_writeThread 59 = .ok (.goto (-37), 3) := by decide +kernel
theorem dX4_writeThread_62 : decode cX4_writeThread 62 = .ok (.aload_n 0, 1) := by decide +kernel
theorem dX4_writeThread_63 : decode cX4_writeThread 63 = .ok (.ldc 86, 2) := by decide +kernel
theorem dX4_writeThread_65 : decode cX4_writeThread 65 = .ok (.invokevirtual 55, 3) := by decide +kernel
theorem dX4_writeThread_68 : decode cX4_writeThread 68 = .ok (.aload_n 0, 1) := by decide +kernel
theorem dX4_writeThread_69 : decode cX4_writeThread 69 = .ok (.invokevirtual 70, 3) := by decide +kernel
theorem dX4_writeThread_72 : decode cX4_writeThread 72 = .ok (.return_, 1) := by decide +kernel
theorem dX4_write_0 : decode cX4_write 0 = .ok (.aload_n 0, 1) := by decide +kernel
theorem dX4_write_1 : decode cX4_write 1 = .ok (.iconst 0, 1) := by decide +kernel
theorem dX4_write_2 : decode cX4_write 2 = .ok (.putfield 9, 3) := by decide +kernel
theorem dX4_write_5 : decode cX4_write 5 = .ok (.aload_n 0, 1) := by decide +kernel
theorem dX4_write_6 : decode cX4_write 6 = .ok (.iconst 1, 1) := by decide +kernel
theorem dX4_write_7 : decode cX4_write 7 = .ok (.putfield 19, 3) := by decide +kernel
theorem dX4_write_10 : decode cX4_write 10 = .ok (.aload_n 0, 1) := by decide +kernel
theorem dX4_write_11 : decode cX4_write 11 = .ok (.ldc 23, 2) := by decide +kernel
theorem dX4_write_13 : decode cX4_write 13 = .ok (.aload_n 1, 1) := by decide +kernel
theorem dX4_write_14 : decode cX4_write 14 = .ok (.iconst 0, 1) := by decide +kernel
theorem dX4_write_15 : decode cX4_write 15 = .ok (.invokevirtual 25, 3) := by decide +kernel
theorem dX4_write_18 : decode cX4_write 18 = .ok (.invokevirtual 31, 3) := by decide +kernel
theorem dX4_write_21 : decode cX4_write 21 = .ok (.aload_n 0, 1) := by decide +kernel
theorem dX4_write_22 : decode cX4_write 22 = .ok (.ldc 35, 2) := by decide +kernel
theorem dX4_write_24 : decode cX4_write 24 = .ok (.aload_n 1, 1) := by decide +kernel
theorem dX4_write_25 : decode cX4_write 25 = .ok (.iconst 1, 1) := by decide +kernel
theorem dX4_write_26 : decode cX4_write 26 = .ok (.invokevirtual 25, 3) := by decide +kernel
theorem dX4_write_29 : decode cX4_write 29 = .ok (.invokevirtual 31, 3) := by decide +kernel
theorem dX4_write_32 : decode cX4_write 32 = .ok (.aload_n 0, 1) := by decide +kernel
theorem dX4_write_33 : decode cX4_write 33 = .ok (.ldc 37, 2) := by decide +kernel
theorem dX4_write_35 : decode cX4_write 35 = .ok (.aload_n 1, 1) := by decide +kernel
theorem dX4_write_36 : decode cX4_write 36 = .ok (.iconst 2, 1) := by decide +kernel
theorem dX4_write_37 : decode cX4_write 37 = .ok (.invokevirtual 25, 3) := by decide +kernel
theorem dX4_write_40 : decode cX4_write 40 = .ok (.invokevirtual 31, 3) := by decide +kernel
theorem dX4_write_43 : decode cX4_write 43 = .ok (.aload_n 1, 1) := by decide +kernel
theorem dX4_write_44 : decode cX4_write 44 = .ok (.getfield 39, 3) := by decide +kernel
theorem dX4_write_47 : decode cX4_write 47 = .ok (.astore_n 2, 1) := by decide +kernel
theorem dX4_write_48 : decode cX4_write 48 = .ok (.iconst 0, 1) := by decide +kernel
theorem dX4_write_49 : decode cX4_write 49 = .ok (.istore_n 3, 1) := by decide +kernel
theorem dX4_write_50 : decode cX4_write 50 = .ok (.iload_n 3, 1) := by decide +kernel
theorem dX4_write_51 : decode cX4_write 51 = .ok (.aload_n 2, 1) := by decide +kernel
theorem dX4_write_52 : decode cX4_write 52 = .ok (.getfield 43, 3) := by decide +kernel
theorem dX4_write_55 : decode cX4_write 55 = .ok (.if_icmp .ge 25, 3) := by decide +kernel
theorem dX4_write_58 : decode cX4_write 58 = .ok (.iload_n 3, 1) := by decide +kernel
theorem dX4_write_59 : decode cX4_write 59 = .ok (.iconst 4, 1) := by decide +kernel
theorem dX4_write_60 : decode cX4_write 60 = .ok (.if_icmp .ge 20, 3) := by decide +kernel
theorem dX4_write_63 : decode cX4_write 63 = .ok (.aload_n 0, 1) := by decide +kernel
theorem dX4_write_64 : decode cX4_write 64 = .ok (.aload_n 2, 1) := by decide +kernel
theorem dX4_write_65 : decode cX4_write 65 = .ok (.aload_n 2, 1) := by decide +kernel
theorem dX4_write_66 : decode cX4_write 66 = .ok (.getfield 48, 3) := by decide +kernel
theorem dX4_write_69 : decode cX4_write 69 = .ok (.iload_n 3, 1) := by decide +kernel
theorem dX4_write_70 : decode cX4_write 70 = .ok (.iaload, 1) := by decide +kernel
theorem dX4_write_71 : decode cX4_write 71 = .ok (.invokevirtual 51, 3) := by decide +kernel
theorem dX4_write_74 : decode cX4_write 74 = .ok (.iinc 3 1, 3) := by decide +kernel
theorem dX4_write_77 : decode cX4_write 77 = .ok (.goto (-27), 3) := by decide +kernel
theorem dX4_write_80 : decode cX4_write 80 = .ok (.aload_n 0, 1) := by decide +kernel
theorem dX4_write_81 : decode cX4_write 81 = .ok (.getfield 9, 3) := by decide +kernel
theorem dX4_write_84 : decode cX4_write 84 = .ok (.ireturn, 1) := by decide +kernel
theorem kn_X4_init : Kn yX4_init cX4_init 1 none 0 := ⟨wm_106, wm_107, by decide +kernel, by decide⟩
theorem kn_X4_byteAt : Kn yX4_byteAt cX4_byteAt 2 (some .int) 1 := ⟨wm_220, wm_107, by decide +kernel, by decide⟩
theorem kn_X4_put : Kn yX4_put cX4_put 2 none 1 := ⟨wm_906, wm_107, by decide +kernel, by decide⟩
theorem kn_X4_endLine : Kn yX4_endLine cX4_endLine 1 none 0 := ⟨wm_907, wm_107, by decide +kernel, by decide⟩
theorem kn_X4_endStatement : Kn yX4_endStatement cX4_endStatement 1 none 0 := ⟨wm_911, wm_107, by decide +kernel, by decide⟩
theorem kn_X4_putGap : Kn yX4_putGap cX4_putGap 1 none 0 := ⟨wm_915, wm_107, by decide +kernel, by decide⟩
theorem kn_X4_writeSign : Kn yX4_writeSign cX4_writeSign 2 none 1 := ⟨wm_916, wm_107, by decide +kernel, by decide⟩
theorem kn_X4_writeWord : Kn yX4_writeWord cX4_writeWord 3 none 1 := ⟨wm_920, wm_107, by decide +kernel, by decide⟩
theorem kn_X4_writeDeclaration : Kn yX4_writeDeclaration cX4_writeDeclaration 4 none 2 := ⟨wm_927, wm_107, by decide +kernel, by decide⟩
theorem kn_X4_writeName : Kn yX4_writeName cX4_writeName 3 none 2 := ⟨wm_937, wm_107, by decide +kernel, by decide⟩
theorem kn_X4_writeAssignment : Kn yX4_writeAssignment cX4_writeAssignment 5 none 2 := ⟨wm_938, wm_107, by decide +kernel, by decide⟩
theorem kn_X4_writeEntry : Kn yX4_writeEntry cX4_writeEntry 4 none 2 := ⟨wm_947, wm_107, by decide +kernel, by decide⟩
theorem kn_X4_writeThread : Kn yX4_writeThread cX4_writeThread 4 none 2 := ⟨wm_951, wm_107, by decide +kernel, by decide⟩
theorem kn_X4_write : Kn yX4_write cX4_write 4 (some .int) 1 := ⟨wm_959, wm_107, by decide +kernel, by decide⟩
/-! ===== LitmusHouse$Printer.<init>()V ===== -/
def b_X4_init_0 (a0 : Nat) (h : AH) : Option (AH) :=
  (ok_h a0).bind fun x1 => (p_i h a0 4 0 (0 : Int32)).bind fun h2 => (n_a h2 100 (1000 : Int32)).bind fun h3 => (p_r h3 a0 4 1 (hp_n h2)).bind fun h4 => (p_z h4 a0 4 2 (1 : Int32)).bind fun h5 => some h5
set_option maxHeartbeats 4000000 in
set_option maxRecDepth 100000 in
theorem q_X4_init_0 {a0 : Nat} {h hE : AH} (hf : b_X4_init_0 a0 h = some hE) : JD cX4_init 1 RX4 "<init>" none (2) 0 [(0, .inr (.inr (a0)))] [] h hE none := by
  unfold b_X4_init_0 at hf
  obtain ⟨x1, e1, hf⟩ := bnd hf
  obtain ⟨h2, e2, hf⟩ := bnd hf
  have m2 := nn_pi e2
  obtain ⟨h3, e3, hf⟩ := bnd hf
  have m3 := nn_n e3
  obtain ⟨h4, e4, hf⟩ := bnd hf
  have m4 := nn_pr e4
  obtain ⟨h5, e5, hf⟩ := bnd hf
  have m5 := nn_pz e5
  have hh := Option.some.inj hf
  subst hh
  have mE : hp_n h5 ≤ hp_n h5 ∧ hp_s h5 ≤ hp_s h5 := ⟨Nat.le_refl _, Nat.le_refl _⟩
  refine ⟨by omega, fun X g K ok nmx lev hK en => ?_⟩
  refine tj_aload_n ok 0 dX4_init_0 rfl rfl ?_
  refine tj_objInit (rest := ([] : List TV).map (vl g)) ok lev (by omega) (of_if e1).1 wm_108 wm_75 wm_obj (rs_ok (Nat.le_of_ble_eq_true rfl)) dX4_init_1 ?_
  refine tj_aload_n ok 0 dX4_init_4 rfl rfl ?_
  refine tj_iconst (v := 0) ok dX4_init_5 (by decide) ?_
  refine tj_putI (k := 0) ok fcX4 (by decide) wm_109 rfl (Or.inl rfl) rfl dX4_init_6 e2 ?_
  refine tj_aload_n ok 0 dX4_init_9 rfl rfl ?_
  refine tj_sipush (v := 1000) ok dX4_init_10 (by decide) ?_
  refine tj_newI ok wm_39 dX4_init_13 e3 (CaX.of en (by omega)) ?_
  refine tj_putR (k := 1) ok fcX4 (by decide) wm_110 rfl (Or.inr ⟨nmx, rfl⟩) (Or.inr ⟨_, rfl⟩) dX4_init_15 e4 ?_
  refine tj_aload_n ok 0 dX4_init_18 rfl rfl ?_
  refine tj_iconst (v := 1) ok dX4_init_19 (by decide) ?_
  refine tj_putZ (k := 2) ok fcX4 (by decide) wm_111 rfl (Or.inl rfl) rfl dX4_init_20 e5 ?_
  exact tj_return ok en dX4_init_23
def f_X4_init (a0 : Nat) (h : AH) : Option (AH) := b_X4_init_0  a0 h
theorem c_X4_init {a0 : Nat} {h hE : AH} (hf : f_X4_init a0 h = some hE) : ∀ g : GT, CM g (2) yX4_init cX4_init 1 none h [.inr (.inr (a0))] hE none :=
  CM.ofJ (by decide) (by show _ ≤ 1; exact Nat.le_of_ble_eq_true rfl) (q_X4_init_0 hf)
/-! ===== LitmusHouse$Printer.byteAt(I)I ===== -/
def b_X4_byteAt_29 (s0 : Int32) (h : AH) : Option (Int32 × AH) :=
  some (s0, h)
set_option maxHeartbeats 4000000 in
set_option maxRecDepth 100000 in
theorem q_X4_byteAt_29 {s0 : Int32} {h hE : AH} {v : Int32} (hf : b_X4_byteAt_29 s0 h = some (v, hE)) : JD cX4_byteAt 2 RX4 "byteAt" (some .int) (2) 29 [] [.inl (s0)] h hE (some (.inl (v))) := by
  unfold b_X4_byteAt_29 at hf
  obtain ⟨hv, hh⟩ := Prod.mk.inj (Option.some.inj hf)
  subst hv
  subst hh
  have mE : hp_n h ≤ hp_n h ∧ hp_s h ≤ hp_s h := ⟨Nat.le_refl _, Nat.le_refl _⟩
  refine ⟨by omega, fun X g K ok nmx lev hK en => ?_⟩
  exact tj_ireturn ok en dX4_byteAt_29
def b_X4_byteAt_28  (h : AH) : Option (Int32 × AH) :=
  b_X4_byteAt_29 (-1 : Int32) h
set_option maxHeartbeats 4000000 in
set_option maxRecDepth 100000 in
theorem q_X4_byteAt_28 {h hE : AH} {v : Int32} (hf : b_X4_byteAt_28  h = some (v, hE)) : JD cX4_byteAt 2 RX4 "byteAt" (some .int) (2) 28 [] [] h hE (some (.inl (v))) := by
  unfold b_X4_byteAt_28 at hf
  have J := q_X4_byteAt_29 hf
  have mE := J.1
  refine ⟨by omega, fun X g K ok nmx lev hK en => ?_⟩
  refine tj_iconst (v := -1) ok dX4_byteAt_28 (by decide) ?_
  exact J.2 X g K ok nmx lev hK en
def b_X4_byteAt_19 (a0 : Nat) (a1 : Int32) (h : AH) : Option (Int32 × AH) :=
  (g_r h a0 4 1).bind fun x1 => (l_i h x1 a1).bind fun x2 => b_X4_byteAt_29 x2 h
set_option maxHeartbeats 4000000 in
set_option maxRecDepth 100000 in
theorem q_X4_byteAt_19 {a0 : Nat} {a1 : Int32} {h hE : AH} {v : Int32} (hf : b_X4_byteAt_19 a0 a1 h = some (v, hE)) : JD cX4_byteAt 2 RX4 "byteAt" (some .int) (2) 19 [(0, .inr (.inr (a0))), (1, .inl (a1))] [] h hE (some (.inl (v))) := by
  unfold b_X4_byteAt_19 at hf
  obtain ⟨x1, e1, hf⟩ := bnd hf
  obtain ⟨x2, e2, hf⟩ := bnd hf
  have J := q_X4_byteAt_29 hf
  have mE := J.1
  refine ⟨by omega, fun X g K ok nmx lev hK en => ?_⟩
  refine tj_aload_n ok 0 dX4_byteAt_19 rfl rfl ?_
  refine tj_getR (k := 1) ok fcX4 (by decide) wm_110 rfl (Or.inr ⟨_, rfl⟩) dX4_byteAt_20 e1 ?_
  refine tj_iload_n ok 1 dX4_byteAt_23 rfl rfl ?_
  refine tj_iaload ok dX4_byteAt_24 e2 ?_
  refine tj_goto (tgt := 29) ok dX4_byteAt_25 (by decide) ?_
  refine tj_sub (lv' := []) [] rfl ?_
  exact J.2 X g K ok nmx lev hK en
def b_X4_byteAt_12 (a0 : Nat) (a1 : Int32) (h : AH) : Option (Int32 × AH) :=
  if (1000 : Int32) ≤ a1 then b_X4_byteAt_28 h else b_X4_byteAt_19 a0 a1 h
set_option maxHeartbeats 4000000 in
set_option maxRecDepth 100000 in
theorem q_X4_byteAt_12 {a0 : Nat} {a1 : Int32} {h hE : AH} {v : Int32} (hf : b_X4_byteAt_12 a0 a1 h = some (v, hE)) : JD cX4_byteAt 2 RX4 "byteAt" (some .int) (2) 12 [(0, .inr (.inr (a0))), (1, .inl (a1))] [] h hE (some (.inl (v))) := by
  unfold b_X4_byteAt_12 at hf
  have mE : hp_n h ≤ hp_n hE ∧ hp_s h ≤ hp_s hE := by
    by_cases hc : (1000 : Int32) ≤ a1
    · rw [if_pos hc] at hf; exact (q_X4_byteAt_28 hf).1
    · rw [if_neg hc] at hf; exact (q_X4_byteAt_19 hf).1
  refine ⟨by omega, fun X g K ok nmx lev hK en => ?_⟩
  refine tj_iload_n ok 1 dX4_byteAt_12 rfl rfl ?_
  refine tj_sipush (v := 1000) ok dX4_byteAt_13 (by decide) ?_
  refine tj_icmp_ge (tgt := 28) ok dX4_byteAt_16 (by decide) (fun hc => ?_) (fun hc => ?_)
  · rw [if_pos hc] at hf
    refine tj_sub (lv' := []) [] rfl ?_
    exact (q_X4_byteAt_28 hf).2 X g K ok nmx lev hK en
  · rw [if_neg hc] at hf
    exact (q_X4_byteAt_19 hf).2 X g K ok nmx lev hK en
def b_X4_byteAt_4 (a0 : Nat) (a1 : Int32) (h : AH) : Option (Int32 × AH) :=
  (g_i h a0 4 0).bind fun x1 => if x1 ≤ a1 then b_X4_byteAt_28 h else b_X4_byteAt_12 a0 a1 h
set_option maxHeartbeats 4000000 in
set_option maxRecDepth 100000 in
theorem q_X4_byteAt_4 {a0 : Nat} {a1 : Int32} {h hE : AH} {v : Int32} (hf : b_X4_byteAt_4 a0 a1 h = some (v, hE)) : JD cX4_byteAt 2 RX4 "byteAt" (some .int) (2) 4 [(0, .inr (.inr (a0))), (1, .inl (a1))] [] h hE (some (.inl (v))) := by
  unfold b_X4_byteAt_4 at hf
  obtain ⟨x1, e1, hf⟩ := bnd hf
  have mE : hp_n h ≤ hp_n hE ∧ hp_s h ≤ hp_s hE := by
    by_cases hc : x1 ≤ a1
    · rw [if_pos hc] at hf; exact (q_X4_byteAt_28 hf).1
    · rw [if_neg hc] at hf; exact (q_X4_byteAt_12 hf).1
  refine ⟨by omega, fun X g K ok nmx lev hK en => ?_⟩
  refine tj_iload_n ok 1 dX4_byteAt_4 rfl rfl ?_
  refine tj_aload_n ok 0 dX4_byteAt_5 rfl rfl ?_
  refine tj_getI (k := 0) ok fcX4 (by decide) wm_109 rfl (Or.inl rfl) dX4_byteAt_6 e1 ?_
  refine tj_icmp_ge (tgt := 28) ok dX4_byteAt_9 (by decide) (fun hc => ?_) (fun hc => ?_)
  · rw [if_pos hc] at hf
    refine tj_sub (lv' := []) [] rfl ?_
    exact (q_X4_byteAt_28 hf).2 X g K ok nmx lev hK en
  · rw [if_neg hc] at hf
    exact (q_X4_byteAt_12 hf).2 X g K ok nmx lev hK en
def b_X4_byteAt_0 (a0 : Nat) (a1 : Int32) (h : AH) : Option (Int32 × AH) :=
  if a1 < 0 then b_X4_byteAt_28 h else b_X4_byteAt_4 a0 a1 h
set_option maxHeartbeats 4000000 in
set_option maxRecDepth 100000 in
theorem q_X4_byteAt_0 {a0 : Nat} {a1 : Int32} {h hE : AH} {v : Int32} (hf : b_X4_byteAt_0 a0 a1 h = some (v, hE)) : JD cX4_byteAt 2 RX4 "byteAt" (some .int) (2) 0 [(0, .inr (.inr (a0))), (1, .inl (a1))] [] h hE (some (.inl (v))) := by
  unfold b_X4_byteAt_0 at hf
  have mE : hp_n h ≤ hp_n hE ∧ hp_s h ≤ hp_s hE := by
    by_cases hc : a1 < 0
    · rw [if_pos hc] at hf; exact (q_X4_byteAt_28 hf).1
    · rw [if_neg hc] at hf; exact (q_X4_byteAt_4 hf).1
  refine ⟨by omega, fun X g K ok nmx lev hK en => ?_⟩
  refine tj_iload_n ok 1 dX4_byteAt_0 rfl rfl ?_
  refine tj_if_lt (tgt := 28) ok dX4_byteAt_1 (by decide) (fun hc => ?_) (fun hc => ?_)
  · rw [if_pos hc] at hf
    refine tj_sub (lv' := []) [] rfl ?_
    exact (q_X4_byteAt_28 hf).2 X g K ok nmx lev hK en
  · rw [if_neg hc] at hf
    exact (q_X4_byteAt_4 hf).2 X g K ok nmx lev hK en
def f_X4_byteAt (a0 : Nat) (a1 : Int32) (h : AH) : Option (Int32 × AH) := b_X4_byteAt_0  a0 a1 h
theorem c_X4_byteAt {a0 : Nat} {a1 : Int32} {h hE : AH} {v : Int32} (hf : f_X4_byteAt a0 a1 h = some (v, hE)) : ∀ g : GT, CM g (2) yX4_byteAt cX4_byteAt 2 (some .int) h [.inr (.inr (a0)), .inl (a1)] hE (some (.inl (v))) :=
  CM.ofJ (by decide) (by show _ ≤ 2; exact Nat.le_of_ble_eq_true rfl) (q_X4_byteAt_0 hf)
/-! ===== LitmusHouse$Printer.put(I)V ===== -/
def b_X4_put_30 (a0 : Nat) (h : AH) : Option (AH) :=
  (p_z h a0 4 2 (0 : Int32)).bind fun h1 => some h1
set_option maxHeartbeats 4000000 in
set_option maxRecDepth 100000 in
theorem q_X4_put_30 {a0 : Nat} {h hE : AH} (hf : b_X4_put_30 a0 h = some hE) : JD cX4_put 2 RX4 "put" none (2) 30 [(0, .inr (.inr (a0)))] [] h hE none := by
  unfold b_X4_put_30 at hf
  obtain ⟨h1, e1, hf⟩ := bnd hf
  have m1 := nn_pz e1
  have hh := Option.some.inj hf
  subst hh
  have mE : hp_n h1 ≤ hp_n h1 ∧ hp_s h1 ≤ hp_s h1 := ⟨Nat.le_refl _, Nat.le_refl _⟩
  refine ⟨by omega, fun X g K ok nmx lev hK en => ?_⟩
  refine tj_aload_n ok 0 dX4_put_30 rfl rfl ?_
  refine tj_iconst (v := 0) ok dX4_put_31 (by decide) ?_
  refine tj_putZ (k := 2) ok fcX4 (by decide) wm_111 rfl (Or.inl rfl) rfl dX4_put_32 e1 ?_
  exact tj_return ok en dX4_put_35
def b_X4_put_10 (a0 : Nat) (a1 : Int32) (h : AH) : Option (AH) :=
  (g_r h a0 4 1).bind fun x1 => (g_i h a0 4 0).bind fun x2 => (s_i h x1 x2 a1).bind fun h3 => (g_i h3 a0 4 0).bind fun x4 => (p_i h3 a0 4 0 (x4 + (1 : Int32))).bind fun h5 => b_X4_put_30 a0 h5
set_option maxHeartbeats 4000000 in
set_option maxRecDepth 100000 in
theorem q_X4_put_10 {a0 : Nat} {a1 : Int32} {h hE : AH} (hf : b_X4_put_10 a0 a1 h = some hE) : JD cX4_put 2 RX4 "put" none (2) 10 [(0, .inr (.inr (a0))), (1, .inl (a1))] [] h hE none := by
  unfold b_X4_put_10 at hf
  obtain ⟨x1, e1, hf⟩ := bnd hf
  obtain ⟨x2, e2, hf⟩ := bnd hf
  obtain ⟨h3, e3, hf⟩ := bnd hf
  have m3 := nn_si e3
  obtain ⟨x4, e4, hf⟩ := bnd hf
  obtain ⟨h5, e5, hf⟩ := bnd hf
  have m5 := nn_pi e5
  have J := q_X4_put_30 hf
  have mE := J.1
  refine ⟨by omega, fun X g K ok nmx lev hK en => ?_⟩
  refine tj_aload_n ok 0 dX4_put_10 rfl rfl ?_
  refine tj_getR (k := 1) ok fcX4 (by decide) wm_110 rfl (Or.inr ⟨_, rfl⟩) dX4_put_11 e1 ?_
  refine tj_aload_n ok 0 dX4_put_14 rfl rfl ?_
  refine tj_getI (k := 0) ok fcX4 (by decide) wm_109 rfl (Or.inl rfl) dX4_put_15 e2 ?_
  refine tj_iload_n ok 1 dX4_put_18 rfl rfl ?_
  refine tj_iastore ok dX4_put_19 e3 ?_
  refine tj_aload_n ok 0 dX4_put_20 rfl rfl ?_
  refine tj_dupa ok dX4_put_21 ?_
  refine tj_getI (k := 0) ok fcX4 (by decide) wm_109 rfl (Or.inl rfl) dX4_put_22 e4 ?_
  refine tj_iconst (v := 1) ok dX4_put_25 (by decide) ?_
  refine tj_iadd ok dX4_put_26 ?_
  refine tj_putI (k := 0) ok fcX4 (by decide) wm_109 rfl (Or.inl rfl) rfl dX4_put_27 e5 ?_
  refine tj_sub (lv' := [(0, .inr (.inr (a0)))]) [0] rfl ?_
  exact J.2 X g K ok nmx lev hK en
def b_X4_put_0 (a0 : Nat) (a1 : Int32) (h : AH) : Option (AH) :=
  (g_i h a0 4 0).bind fun x1 => if (1000 : Int32) ≤ x1 then b_X4_put_30 a0 h else b_X4_put_10 a0 a1 h
set_option maxHeartbeats 4000000 in
set_option maxRecDepth 100000 in
theorem q_X4_put_0 {a0 : Nat} {a1 : Int32} {h hE : AH} (hf : b_X4_put_0 a0 a1 h = some hE) : JD cX4_put 2 RX4 "put" none (2) 0 [(0, .inr (.inr (a0))), (1, .inl (a1))] [] h hE none := by
  unfold b_X4_put_0 at hf
  obtain ⟨x1, e1, hf⟩ := bnd hf
  have mE : hp_n h ≤ hp_n hE ∧ hp_s h ≤ hp_s hE := by
    by_cases hc : (1000 : Int32) ≤ x1
    · rw [if_pos hc] at hf; exact (q_X4_put_30 hf).1
    · rw [if_neg hc] at hf; exact (q_X4_put_10 hf).1
  refine ⟨by omega, fun X g K ok nmx lev hK en => ?_⟩
  refine tj_aload_n ok 0 dX4_put_0 rfl rfl ?_
  refine tj_getI (k := 0) ok fcX4 (by decide) wm_109 rfl (Or.inl rfl) dX4_put_1 e1 ?_
  refine tj_sipush (v := 1000) ok dX4_put_4 (by decide) ?_
  refine tj_icmp_ge (tgt := 30) ok dX4_put_7 (by decide) (fun hc => ?_) (fun hc => ?_)
  · rw [if_pos hc] at hf
    refine tj_sub (lv' := [(0, .inr (.inr (a0)))]) [0] rfl ?_
    exact (q_X4_put_30 hf).2 X g K ok nmx lev hK en
  · rw [if_neg hc] at hf
    exact (q_X4_put_10 hf).2 X g K ok nmx lev hK en
def f_X4_put (a0 : Nat) (a1 : Int32) (h : AH) : Option (AH) := b_X4_put_0  a0 a1 h
theorem c_X4_put {a0 : Nat} {a1 : Int32} {h hE : AH} (hf : f_X4_put a0 a1 h = some hE) : ∀ g : GT, CM g (2) yX4_put cX4_put 2 none h [.inr (.inr (a0)), .inl (a1)] hE none :=
  CM.ofJ (by decide) (by show _ ≤ 2; exact Nat.le_of_ble_eq_true rfl) (q_X4_put_0 hf)
/-! ===== LitmusHouse$Printer.endLine()V ===== -/
def b_X4_endLine_0 (a0 : Nat) (h : AH) : Option (AH) :=
  (ok_v h a0 4).bind fun x1 => (f_X4_put a0 (10 : Int32) h).bind fun h2 => (p_z h2 a0 4 2 (1 : Int32)).bind fun h3 => some h3
set_option maxHeartbeats 4000000 in
set_option maxRecDepth 100000 in
theorem q_X4_endLine_0 {a0 : Nat} {h hE : AH} (hf : b_X4_endLine_0 a0 h = some hE) : JD cX4_endLine 1 RX4 "endLine" none (3) 0 [(0, .inr (.inr (a0)))] [] h hE none := by
  unfold b_X4_endLine_0 at hf
  obtain ⟨x1, e1, hf⟩ := bnd hf
  obtain ⟨h2, e2, hf⟩ := bnd hf
  have k2 := c_X4_put e2
  have m2 := (k2 default_g).1
  obtain ⟨h3, e3, hf⟩ := bnd hf
  have m3 := nn_pz e3
  have hh := Option.some.inj hf
  subst hh
  have mE : hp_n h3 ≤ hp_n h3 ∧ hp_s h3 ≤ hp_s h3 := ⟨Nat.le_refl _, Nat.le_refl _⟩
  refine ⟨by omega, fun X g K ok nmx lev hK en => ?_⟩
  refine tj_aload_n ok 0 dX4_endLine_0 rfl rfl ?_
  refine tj_bipush (v := 10) ok dX4_endLine_1 (by decide) ?_
  refine tj_callV (rest := ([] : List TV).map (vl g)) (as := [.inl ((10 : Int32))]) ok lev (by omega) fcX4.1 (by decide) rfl (of_if e1).1 (k2 g) (CaX.of en (by omega)) kn_X4_put wm_908 wm_909 wm_910 (rs_ok (Nat.le_of_ble_eq_true rfl)) rfl rfl dX4_endLine_3 ?_
  refine tj_aload_n ok 0 dX4_endLine_6 rfl rfl ?_
  refine tj_iconst (v := 1) ok dX4_endLine_7 (by decide) ?_
  refine tj_putZ (k := 2) ok fcX4 (by decide) wm_111 rfl (Or.inl rfl) rfl dX4_endLine_8 e3 ?_
  exact tj_return ok en dX4_endLine_11
def f_X4_endLine (a0 : Nat) (h : AH) : Option (AH) := b_X4_endLine_0  a0 h
theorem c_X4_endLine {a0 : Nat} {h hE : AH} (hf : f_X4_endLine a0 h = some hE) : ∀ g : GT, CM g (3) yX4_endLine cX4_endLine 1 none h [.inr (.inr (a0))] hE none :=
  CM.ofJ (by decide) (by show _ ≤ 1; exact Nat.le_of_ble_eq_true rfl) (q_X4_endLine_0 hf)
/-! ===== LitmusHouse$Printer.endStatement()V ===== -/
def b_X4_endStatement_0 (a0 : Nat) (h : AH) : Option (AH) :=
  (ok_v h a0 4).bind fun x1 => (f_X4_put a0 (59 : Int32) h).bind fun h2 => (ok_v h2 a0 4).bind fun x3 => (f_X4_endLine a0 h2).bind fun h4 => some h4
set_option maxHeartbeats 4000000 in
set_option maxRecDepth 100000 in
theorem q_X4_endStatement_0 {a0 : Nat} {h hE : AH} (hf : b_X4_endStatement_0 a0 h = some hE) : JD cX4_endStatement 1 RX4 "endStatement" none (4) 0 [(0, .inr (.inr (a0)))] [] h hE none := by
  unfold b_X4_endStatement_0 at hf
  obtain ⟨x1, e1, hf⟩ := bnd hf
  obtain ⟨h2, e2, hf⟩ := bnd hf
  have k2 := c_X4_put e2
  have m2 := (k2 default_g).1
  obtain ⟨x3, e3, hf⟩ := bnd hf
  obtain ⟨h4, e4, hf⟩ := bnd hf
  have k4 := c_X4_endLine e4
  have m4 := (k4 default_g).1
  have hh := Option.some.inj hf
  subst hh
  have mE : hp_n h4 ≤ hp_n h4 ∧ hp_s h4 ≤ hp_s h4 := ⟨Nat.le_refl _, Nat.le_refl _⟩
  refine ⟨by omega, fun X g K ok nmx lev hK en => ?_⟩
  refine tj_aload_n ok 0 dX4_endStatement_0 rfl rfl ?_
  refine tj_bipush (v := 59) ok dX4_endStatement_1 (by decide) ?_
  refine tj_callV (rest := ([] : List TV).map (vl g)) (as := [.inl ((59 : Int32))]) ok lev (by omega) fcX4.1 (by decide) rfl (of_if e1).1 (k2 g) (CaX.of en (by omega)) kn_X4_put wm_908 wm_909 wm_910 (rs_ok (Nat.le_of_ble_eq_true rfl)) rfl rfl dX4_endStatement_3 ?_
  refine tj_aload_n ok 0 dX4_endStatement_6 rfl rfl ?_
  refine tj_callV (rest := ([] : List TV).map (vl g)) (as := []) ok lev (by omega) fcX4.1 (by decide) rfl (of_if e3).1 (k4 g) (CaX.of en (by omega)) kn_X4_endLine wm_912 wm_913 wm_914 (rs_ok (Nat.le_of_ble_eq_true rfl)) rfl rfl dX4_endStatement_7 ?_
  exact tj_return ok en dX4_endStatement_10
def f_X4_endStatement (a0 : Nat) (h : AH) : Option (AH) := b_X4_endStatement_0  a0 h
theorem c_X4_endStatement {a0 : Nat} {h hE : AH} (hf : f_X4_endStatement a0 h = some hE) : ∀ g : GT, CM g (4) yX4_endStatement cX4_endStatement 1 none h [.inr (.inr (a0))] hE none :=
  CM.ofJ (by decide) (by show _ ≤ 1; exact Nat.le_of_ble_eq_true rfl) (q_X4_endStatement_0 hf)
/-! ===== LitmusHouse$Printer.putGap()V ===== -/
def b_X4_putGap_13  (h : AH) : Option (AH) :=
  some h
set_option maxHeartbeats 4000000 in
set_option maxRecDepth 100000 in
theorem q_X4_putGap_13 {h hE : AH} (hf : b_X4_putGap_13  h = some hE) : JD cX4_putGap 1 RX4 "putGap" none (3) 13 [] [] h hE none := by
  unfold b_X4_putGap_13 at hf
  have hh := Option.some.inj hf
  subst hh
  have mE : hp_n h ≤ hp_n h ∧ hp_s h ≤ hp_s h := ⟨Nat.le_refl _, Nat.le_refl _⟩
  refine ⟨by omega, fun X g K ok nmx lev hK en => ?_⟩
  exact tj_return ok en dX4_putGap_13
def b_X4_putGap_7 (a0 : Nat) (h : AH) : Option (AH) :=
  (ok_v h a0 4).bind fun x1 => (f_X4_put a0 (32 : Int32) h).bind fun h2 => b_X4_putGap_13 h2
set_option maxHeartbeats 4000000 in
set_option maxRecDepth 100000 in
theorem q_X4_putGap_7 {a0 : Nat} {h hE : AH} (hf : b_X4_putGap_7 a0 h = some hE) : JD cX4_putGap 1 RX4 "putGap" none (3) 7 [(0, .inr (.inr (a0)))] [] h hE none := by
  unfold b_X4_putGap_7 at hf
  obtain ⟨x1, e1, hf⟩ := bnd hf
  obtain ⟨h2, e2, hf⟩ := bnd hf
  have k2 := c_X4_put e2
  have m2 := (k2 default_g).1
  have J := q_X4_putGap_13 hf
  have mE := J.1
  refine ⟨by omega, fun X g K ok nmx lev hK en => ?_⟩
  refine tj_aload_n ok 0 dX4_putGap_7 rfl rfl ?_
  refine tj_bipush (v := 32) ok dX4_putGap_8 (by decide) ?_
  refine tj_callV (rest := ([] : List TV).map (vl g)) (as := [.inl ((32 : Int32))]) ok lev (by omega) fcX4.1 (by decide) rfl (of_if e1).1 (k2 g) (CaX.of en (by omega)) kn_X4_put wm_908 wm_909 wm_910 (rs_ok (Nat.le_of_ble_eq_true rfl)) rfl rfl dX4_putGap_10 ?_
  refine tj_sub (lv' := []) [] rfl ?_
  exact J.2 X g K ok nmx lev hK en
def b_X4_putGap_0 (a0 : Nat) (h : AH) : Option (AH) :=
  (g_i h a0 4 2).bind fun x1 => if x1 = 0 then b_X4_putGap_7 a0 h else b_X4_putGap_13 h
set_option maxHeartbeats 4000000 in
set_option maxRecDepth 100000 in
theorem q_X4_putGap_0 {a0 : Nat} {h hE : AH} (hf : b_X4_putGap_0 a0 h = some hE) : JD cX4_putGap 1 RX4 "putGap" none (3) 0 [(0, .inr (.inr (a0)))] [] h hE none := by
  unfold b_X4_putGap_0 at hf
  obtain ⟨x1, e1, hf⟩ := bnd hf
  have mE : hp_n h ≤ hp_n hE ∧ hp_s h ≤ hp_s hE := by
    by_cases hc : x1 = 0
    · rw [if_pos hc] at hf; exact (q_X4_putGap_7 hf).1
    · rw [if_neg hc] at hf; exact (q_X4_putGap_13 hf).1
  refine ⟨by omega, fun X g K ok nmx lev hK en => ?_⟩
  refine tj_aload_n ok 0 dX4_putGap_0 rfl rfl ?_
  refine tj_getI (k := 2) ok fcX4 (by decide) wm_111 rfl (Or.inr rfl) dX4_putGap_1 e1 ?_
  refine tj_if_ne (tgt := 13) ok dX4_putGap_4 (by decide) (fun hc => ?_) (fun hc => ?_)
  · rw [if_neg hc] at hf
    refine tj_sub (lv' := []) [] rfl ?_
    exact (q_X4_putGap_13 hf).2 X g K ok nmx lev hK en
  · rw [if_pos hc] at hf
    exact (q_X4_putGap_7 hf).2 X g K ok nmx lev hK en
def f_X4_putGap (a0 : Nat) (h : AH) : Option (AH) := b_X4_putGap_0  a0 h
theorem c_X4_putGap {a0 : Nat} {h hE : AH} (hf : f_X4_putGap a0 h = some hE) : ∀ g : GT, CM g (3) yX4_putGap cX4_putGap 1 none h [.inr (.inr (a0))] hE none :=
  CM.ofJ (by decide) (by show _ ≤ 1; exact Nat.le_of_ble_eq_true rfl) (q_X4_putGap_0 hf)
/-! ===== LitmusHouse$Printer.writeSign(I)V ===== -/
def b_X4_writeSign_0 (a0 : Nat) (a1 : Int32) (h : AH) : Option (AH) :=
  (ok_v h a0 4).bind fun x1 => (f_X4_putGap a0 h).bind fun h2 => (ok_v h2 a0 4).bind fun x3 => (f_X4_put a0 a1 h2).bind fun h4 => some h4
set_option maxHeartbeats 4000000 in
set_option maxRecDepth 100000 in
theorem q_X4_writeSign_0 {a0 : Nat} {a1 : Int32} {h hE : AH} (hf : b_X4_writeSign_0 a0 a1 h = some hE) : JD cX4_writeSign 2 RX4 "writeSign" none (4) 0 [(0, .inr (.inr (a0))), (1, .inl (a1))] [] h hE none := by
  unfold b_X4_writeSign_0 at hf
  obtain ⟨x1, e1, hf⟩ := bnd hf
  obtain ⟨h2, e2, hf⟩ := bnd hf
  have k2 := c_X4_putGap e2
  have m2 := (k2 default_g).1
  obtain ⟨x3, e3, hf⟩ := bnd hf
  obtain ⟨h4, e4, hf⟩ := bnd hf
  have k4 := c_X4_put e4
  have m4 := (k4 default_g).1
  have hh := Option.some.inj hf
  subst hh
  have mE : hp_n h4 ≤ hp_n h4 ∧ hp_s h4 ≤ hp_s h4 := ⟨Nat.le_refl _, Nat.le_refl _⟩
  refine ⟨by omega, fun X g K ok nmx lev hK en => ?_⟩
  refine tj_aload_n ok 0 dX4_writeSign_0 rfl rfl ?_
  refine tj_callV (rest := ([] : List TV).map (vl g)) (as := []) ok lev (by omega) fcX4.1 (by decide) rfl (of_if e1).1 (k2 g) (CaX.of en (by omega)) kn_X4_putGap wm_917 wm_918 wm_919 (rs_ok (Nat.le_of_ble_eq_true rfl)) rfl rfl dX4_writeSign_1 ?_
  refine tj_aload_n ok 0 dX4_writeSign_4 rfl rfl ?_
  refine tj_iload_n ok 1 dX4_writeSign_5 rfl rfl ?_
  refine tj_callV (rest := ([] : List TV).map (vl g)) (as := [.inl (a1)]) ok lev (by omega) fcX4.1 (by decide) rfl (of_if e3).1 (k4 g) (CaX.of en (by omega)) kn_X4_put wm_908 wm_909 wm_910 (rs_ok (Nat.le_of_ble_eq_true rfl)) rfl rfl dX4_writeSign_6 ?_
  exact tj_return ok en dX4_writeSign_9
def f_X4_writeSign (a0 : Nat) (a1 : Int32) (h : AH) : Option (AH) := b_X4_writeSign_0  a0 a1 h
theorem c_X4_writeSign {a0 : Nat} {a1 : Int32} {h hE : AH} (hf : f_X4_writeSign a0 a1 h = some hE) : ∀ g : GT, CM g (4) yX4_writeSign cX4_writeSign 2 none h [.inr (.inr (a0)), .inl (a1)] hE none :=
  CM.ofJ (by decide) (by show _ ≤ 2; exact Nat.le_of_ble_eq_true rfl) (q_X4_writeSign_0 hf)
/-! ===== LitmusHouse$Printer.writeWord(Ljava/lang/String;)V ===== -/
def b_X4_writeWord_29  (h : AH) : Option (AH) :=
  some h
set_option maxHeartbeats 4000000 in
set_option maxRecDepth 100000 in
theorem q_X4_writeWord_29 {h hE : AH} (hf : b_X4_writeWord_29  h = some hE) : JD cX4_writeWord 3 RX4 "writeWord" none (7) 29 [] [] h hE none := by
  unfold b_X4_writeWord_29 at hf
  have hh := Option.some.inj hf
  subst hh
  have mE : hp_n h ≤ hp_n h ∧ hp_s h ≤ hp_s h := ⟨Nat.le_refl _, Nat.le_refl _⟩
  refine ⟨by omega, fun X g K ok nmx lev hK en => ?_⟩
  exact tj_return ok en dX4_writeWord_29
def b_X4_writeWord_14 (r6 : Nat → Nat → Int32 → AH → Option (AH)) (a0 : Nat) (a1 : Nat) (a2 : Int32) (h : AH) : Option (AH) :=
  (f_J0_charAt a1 a2 h).bind fun q1 => (ok_v q1.2 a0 4).bind fun x2 => (f_X4_put a0 q1.1 q1.2).bind fun h3 => r6 a0 a1 (a2 + (1 : Int32)) h3
set_option maxHeartbeats 4000000 in
set_option maxRecDepth 100000 in
theorem q_X4_writeWord_14 {hE : AH} {r6 : Nat → Nat → Int32 → AH → Option (AH)} (hr6 : ∀ (b0 : Nat) (b1 : Nat) (b2 : Int32) (h : AH), r6 b0 b1 b2 h = some hE → JD cX4_writeWord 3 RX4 "writeWord" none (7) 6 [(0, .inr (.inr (b0))), (1, .inr (.inr (b1))), (2, .inl (b2))] [] h hE none) {a0 : Nat} {a1 : Nat} {a2 : Int32} {h : AH} (hf : b_X4_writeWord_14 r6 a0 a1 a2 h = some hE) : JD cX4_writeWord 3 RX4 "writeWord" none (7) 14 [(0, .inr (.inr (a0))), (1, .inr (.inr (a1))), (2, .inl (a2))] [] h hE none := by
  unfold b_X4_writeWord_14 at hf
  obtain ⟨⟨x1, h1⟩, e1, hf⟩ := bnd hf
  try dsimp only at hf
  have k1 := c_J0_charAt e1
  have m1 := (k1 default_g).1
  obtain ⟨x2, e2, hf⟩ := bnd hf
  obtain ⟨h3, e3, hf⟩ := bnd hf
  have k3 := c_X4_put e3
  have m3 := (k3 default_g).1
  have J := hr6 _ _ _ _ hf
  have mE := J.1
  refine ⟨by omega, fun X g K ok nmx lev hK en => ?_⟩
  refine tj_aload_n ok 0 dX4_writeWord_14 rfl rfl ?_
  refine tj_aload_n ok 1 dX4_writeWord_15 rfl rfl ?_
  refine tj_iload_n ok 2 dX4_writeWord_16 rfl rfl ?_
  refine tj_callT (rest := ([.inr (.inr (a0))] : List TV).map (vl g)) (as := [.inl (a2)]) ok lev (by omega) (k1 g) (CaX.of en (by omega)) (of_if e1).1.1 kn_J0_charAt rfl wm_921 wm_922 wm_923 (rs_ok (Nat.le_of_ble_eq_true rfl)) rfl rfl dX4_writeWord_17 ?_
  refine tj_callV (rest := ([] : List TV).map (vl g)) (as := [.inl (x1)]) ok lev (by omega) fcX4.1 (by decide) rfl (of_if e2).1 (k3 g) (CaX.of en (by omega)) kn_X4_put wm_908 wm_909 wm_910 (rs_ok (Nat.le_of_ble_eq_true rfl)) rfl rfl dX4_writeWord_20 ?_
  refine tj_iinc (lv' := [(0, .inr (.inr (a0))), (1, .inr (.inr (a1))), (2, .inl (a2 + (1 : Int32)))]) ok 2 dX4_writeWord_23 rfl (rfl) (by decide) rfl ?_
  refine tj_goto (tgt := 6) ok dX4_writeWord_26 (by decide) ?_
  exact J.2 X g K ok nmx lev hK en
def b_X4_writeWord_6 (r6 : Nat → Nat → Int32 → AH → Option (AH)) (a0 : Nat) (a1 : Nat) (a2 : Int32) (h : AH) : Option (AH) :=
  (f_J0_length a1 h).bind fun q1 => if q1.1 ≤ a2 then b_X4_writeWord_29 q1.2 else b_X4_writeWord_14 r6 a0 a1 a2 q1.2
set_option maxHeartbeats 4000000 in
set_option maxRecDepth 100000 in
theorem q_X4_writeWord_6 {hE : AH} {r6 : Nat → Nat → Int32 → AH → Option (AH)} (hr6 : ∀ (b0 : Nat) (b1 : Nat) (b2 : Int32) (h : AH), r6 b0 b1 b2 h = some hE → JD cX4_writeWord 3 RX4 "writeWord" none (7) 6 [(0, .inr (.inr (b0))), (1, .inr (.inr (b1))), (2, .inl (b2))] [] h hE none) {a0 : Nat} {a1 : Nat} {a2 : Int32} {h : AH} (hf : b_X4_writeWord_6 r6 a0 a1 a2 h = some hE) : JD cX4_writeWord 3 RX4 "writeWord" none (7) 6 [(0, .inr (.inr (a0))), (1, .inr (.inr (a1))), (2, .inl (a2))] [] h hE none := by
  unfold b_X4_writeWord_6 at hf
  obtain ⟨⟨x1, h1⟩, e1, hf⟩ := bnd hf
  try dsimp only at hf
  have k1 := c_J0_length e1
  have m1 := (k1 default_g).1
  have mE : hp_n h1 ≤ hp_n hE ∧ hp_s h1 ≤ hp_s hE := by
    by_cases hc : x1 ≤ a2
    · rw [if_pos hc] at hf; exact (q_X4_writeWord_29 hf).1
    · rw [if_neg hc] at hf; exact (q_X4_writeWord_14 hr6 hf).1
  refine ⟨by omega, fun X g K ok nmx lev hK en => ?_⟩
  refine tj_iload_n ok 2 dX4_writeWord_6 rfl rfl ?_
  refine tj_aload_n ok 1 dX4_writeWord_7 rfl rfl ?_
  refine tj_callT (rest := ([.inl (a2)] : List TV).map (vl g)) (as := []) ok lev (by omega) (k1 g) (CaX.of en (by omega)) (of_if e1).1 kn_J0_length rfl wm_924 wm_925 wm_926 (rs_ok (Nat.le_of_ble_eq_true rfl)) rfl rfl dX4_writeWord_8 ?_
  refine tj_icmp_ge (tgt := 29) ok dX4_writeWord_11 (by decide) (fun hc => ?_) (fun hc => ?_)
  · rw [if_pos hc] at hf
    refine tj_sub (lv' := []) [] rfl ?_
    exact (q_X4_writeWord_29 hf).2 X g K ok nmx lev hK en
  · rw [if_neg hc] at hf
    exact (q_X4_writeWord_14 hr6 hf).2 X g K ok nmx lev hK en
def l_X4_writeWord_6 : Nat → Nat → Nat → Int32 → AH → Option (AH)
  | 0 => fun _ _ _ _ => none
  | n + 1 => fun a0 a1 a2 h => b_X4_writeWord_6 (l_X4_writeWord_6 n) a0 a1 a2 h
theorem ql_X4_writeWord_6 {n : Nat} {a0 : Nat} {a1 : Nat} {a2 : Int32} {h hE : AH} (hf : l_X4_writeWord_6 n a0 a1 a2 h = some hE) : JD cX4_writeWord 3 RX4 "writeWord" none (7) 6 [(0, .inr (.inr (a0))), (1, .inr (.inr (a1))), (2, .inl (a2))] [] h hE none := by
  induction n generalizing a0 a1 a2 h with
  | zero => cases hf
  | succ n ih => exact q_X4_writeWord_6 (fun _ _ _ _ hf => ih hf) hf
def b_X4_writeWord_0 (a0 : Nat) (a1 : Nat) (h : AH) : Option (AH) :=
  (ok_v h a0 4).bind fun x1 => (f_X4_putGap a0 h).bind fun h2 => l_X4_writeWord_6 fu_ a0 a1 (0 : Int32) h2
set_option maxHeartbeats 4000000 in
set_option maxRecDepth 100000 in
theorem q_X4_writeWord_0 {a0 : Nat} {a1 : Nat} {h hE : AH} (hf : b_X4_writeWord_0 a0 a1 h = some hE) : JD cX4_writeWord 3 RX4 "writeWord" none (7) 0 [(0, .inr (.inr (a0))), (1, .inr (.inr (a1)))] [] h hE none := by
  unfold b_X4_writeWord_0 at hf
  obtain ⟨x1, e1, hf⟩ := bnd hf
  obtain ⟨h2, e2, hf⟩ := bnd hf
  have k2 := c_X4_putGap e2
  have m2 := (k2 default_g).1
  have J := ql_X4_writeWord_6 hf
  have mE := J.1
  refine ⟨by omega, fun X g K ok nmx lev hK en => ?_⟩
  refine tj_aload_n ok 0 dX4_writeWord_0 rfl rfl ?_
  refine tj_callV (rest := ([] : List TV).map (vl g)) (as := []) ok lev (by omega) fcX4.1 (by decide) rfl (of_if e1).1 (k2 g) (CaX.of en (by omega)) kn_X4_putGap wm_917 wm_918 wm_919 (rs_ok (Nat.le_of_ble_eq_true rfl)) rfl rfl dX4_writeWord_1 ?_
  refine tj_iconst (v := 0) ok dX4_writeWord_4 (by decide) ?_
  refine tj_istore_n (lv' := [(0, .inr (.inr (a0))), (1, .inr (.inr (a1))), (2, .inl ((0 : Int32)))]) ok dX4_writeWord_5 rfl (by decide) rfl ?_
  exact J.2 X g K ok nmx lev hK en
def f_X4_writeWord (a0 : Nat) (a1 : Nat) (h : AH) : Option (AH) := b_X4_writeWord_0  a0 a1 h
theorem c_X4_writeWord {a0 : Nat} {a1 : Nat} {h hE : AH} (hf : f_X4_writeWord a0 a1 h = some hE) : ∀ g : GT, CM g (7) yX4_writeWord cX4_writeWord 3 none h [.inr (.inr (a0)), .inr (.inr (a1))] hE none :=
  CM.ofJ (by decide) (by show _ ≤ 3; exact Nat.le_of_ble_eq_true rfl) (q_X4_writeWord_0 hf)
/-! ===== LitmusHouse$Printer.writeDeclaration(Ljava/lang/String;I)V ===== -/
def b_X4_writeDeclaration_40 (a0 : Nat) (h : AH) : Option (AH) :=
  (ok_v h a0 4).bind fun x1 => (f_X4_endStatement a0 h).bind fun h2 => some h2
set_option maxHeartbeats 4000000 in
set_option maxRecDepth 100000 in
theorem q_X4_writeDeclaration_40 {a0 : Nat} {h hE : AH} (hf : b_X4_writeDeclaration_40 a0 h = some hE) : JD cX4_writeDeclaration 4 RX4 "writeDeclaration" none (8) 40 [(0, .inr (.inr (a0)))] [] h hE none := by
  unfold b_X4_writeDeclaration_40 at hf
  obtain ⟨x1, e1, hf⟩ := bnd hf
  obtain ⟨h2, e2, hf⟩ := bnd hf
  have k2 := c_X4_endStatement e2
  have m2 := (k2 default_g).1
  have hh := Option.some.inj hf
  subst hh
  have mE : hp_n h2 ≤ hp_n h2 ∧ hp_s h2 ≤ hp_s h2 := ⟨Nat.le_refl _, Nat.le_refl _⟩
  refine ⟨by omega, fun X g K ok nmx lev hK en => ?_⟩
  refine tj_aload_n ok 0 dX4_writeDeclaration_40 rfl rfl ?_
  refine tj_callV (rest := ([] : List TV).map (vl g)) (as := []) ok lev (by omega) fcX4.1 (by decide) rfl (of_if e1).1 (k2 g) (CaX.of en (by omega)) kn_X4_endStatement wm_928 wm_929 wm_930 (rs_ok (Nat.le_of_ble_eq_true rfl)) rfl rfl dX4_writeDeclaration_41 ?_
  exact tj_return ok en dX4_writeDeclaration_44
def b_X4_writeDeclaration_34 (r12 : Nat → Int32 → Int32 → AH → Option (AH)) (a0 : Nat) (a2 : Int32) (a3 : Int32) (h : AH) : Option (AH) :=
  r12 a0 a2 (a3 + (1 : Int32)) h
set_option maxHeartbeats 4000000 in
set_option maxRecDepth 100000 in
theorem q_X4_writeDeclaration_34 {hE : AH} {r12 : Nat → Int32 → Int32 → AH → Option (AH)} (hr12 : ∀ (b0 : Nat) (b2 : Int32) (b3 : Int32) (h : AH), r12 b0 b2 b3 h = some hE → JD cX4_writeDeclaration 4 RX4 "writeDeclaration" none (8) 12 [(0, .inr (.inr (b0))), (2, .inl (b2)), (3, .inl (b3))] [] h hE none) {a0 : Nat} {a2 : Int32} {a3 : Int32} {h : AH} (hf : b_X4_writeDeclaration_34 r12 a0 a2 a3 h = some hE) : JD cX4_writeDeclaration 4 RX4 "writeDeclaration" none (8) 34 [(0, .inr (.inr (a0))), (2, .inl (a2)), (3, .inl (a3))] [] h hE none := by
  unfold b_X4_writeDeclaration_34 at hf
  have J := hr12 _ _ _ _ hf
  have mE := J.1
  refine ⟨by omega, fun X g K ok nmx lev hK en => ?_⟩
  refine tj_iinc (lv' := [(0, .inr (.inr (a0))), (2, .inl (a2)), (3, .inl (a3 + (1 : Int32)))]) ok 2 dX4_writeDeclaration_34 rfl (rfl) (by decide) rfl ?_
  refine tj_goto (tgt := 12) ok dX4_writeDeclaration_37 (by decide) ?_
  exact J.2 X g K ok nmx lev hK en
def b_X4_writeDeclaration_26 (r12 : Nat → Int32 → Int32 → AH → Option (AH)) (a0 : Nat) (a2 : Int32) (a3 : Int32) (h : AH) : Option (AH) :=
  (ok_v h a0 4).bind fun x1 => (f_X4_writeSign a0 ((117 : Int32) + a3) h).bind fun h2 => b_X4_writeDeclaration_34 r12 a0 a2 a3 h2
set_option maxHeartbeats 4000000 in
set_option maxRecDepth 100000 in
theorem q_X4_writeDeclaration_26 {hE : AH} {r12 : Nat → Int32 → Int32 → AH → Option (AH)} (hr12 : ∀ (b0 : Nat) (b2 : Int32) (b3 : Int32) (h : AH), r12 b0 b2 b3 h = some hE → JD cX4_writeDeclaration 4 RX4 "writeDeclaration" none (8) 12 [(0, .inr (.inr (b0))), (2, .inl (b2)), (3, .inl (b3))] [] h hE none) {a0 : Nat} {a2 : Int32} {a3 : Int32} {h : AH} (hf : b_X4_writeDeclaration_26 r12 a0 a2 a3 h = some hE) : JD cX4_writeDeclaration 4 RX4 "writeDeclaration" none (8) 26 [(0, .inr (.inr (a0))), (2, .inl (a2)), (3, .inl (a3))] [] h hE none := by
  unfold b_X4_writeDeclaration_26 at hf
  obtain ⟨x1, e1, hf⟩ := bnd hf
  obtain ⟨h2, e2, hf⟩ := bnd hf
  have k2 := c_X4_writeSign e2
  have m2 := (k2 default_g).1
  have J := q_X4_writeDeclaration_34 hr12 hf
  have mE := J.1
  refine ⟨by omega, fun X g K ok nmx lev hK en => ?_⟩
  refine tj_aload_n ok 0 dX4_writeDeclaration_26 rfl rfl ?_
  refine tj_bipush (v := 117) ok dX4_writeDeclaration_27 (by decide) ?_
  refine tj_iload_n ok 2 dX4_writeDeclaration_29 rfl rfl ?_
  refine tj_iadd ok dX4_writeDeclaration_30 ?_
  refine tj_callV (rest := ([] : List TV).map (vl g)) (as := [.inl ((117 : Int32) + a3)]) ok lev (by omega) fcX4.1 (by decide) rfl (of_if e1).1 (k2 g) (CaX.of en (by omega)) kn_X4_writeSign wm_931 wm_932 wm_933 (rs_ok (Nat.le_of_ble_eq_true rfl)) rfl rfl dX4_writeDeclaration_31 ?_
  exact J.2 X g K ok nmx lev hK en
def b_X4_writeDeclaration_18 (r12 : Nat → Int32 → Int32 → AH → Option (AH)) (a0 : Nat) (a2 : Int32) (a3 : Int32) (h : AH) : Option (AH) :=
  if ((a2 >>> (a3 &&& 31)) &&& (1 : Int32)) = 0 then b_X4_writeDeclaration_34 r12 a0 a2 a3 h else b_X4_writeDeclaration_26 r12 a0 a2 a3 h
set_option maxHeartbeats 4000000 in
set_option maxRecDepth 100000 in
theorem q_X4_writeDeclaration_18 {hE : AH} {r12 : Nat → Int32 → Int32 → AH → Option (AH)} (hr12 : ∀ (b0 : Nat) (b2 : Int32) (b3 : Int32) (h : AH), r12 b0 b2 b3 h = some hE → JD cX4_writeDeclaration 4 RX4 "writeDeclaration" none (8) 12 [(0, .inr (.inr (b0))), (2, .inl (b2)), (3, .inl (b3))] [] h hE none) {a0 : Nat} {a2 : Int32} {a3 : Int32} {h : AH} (hf : b_X4_writeDeclaration_18 r12 a0 a2 a3 h = some hE) : JD cX4_writeDeclaration 4 RX4 "writeDeclaration" none (8) 18 [(0, .inr (.inr (a0))), (2, .inl (a2)), (3, .inl (a3))] [] h hE none := by
  unfold b_X4_writeDeclaration_18 at hf
  have mE : hp_n h ≤ hp_n hE ∧ hp_s h ≤ hp_s hE := by
    by_cases hc : ((a2 >>> (a3 &&& 31)) &&& (1 : Int32)) = 0
    · rw [if_pos hc] at hf; exact (q_X4_writeDeclaration_34 hr12 hf).1
    · rw [if_neg hc] at hf; exact (q_X4_writeDeclaration_26 hr12 hf).1
  refine ⟨by omega, fun X g K ok nmx lev hK en => ?_⟩
  refine tj_iload_n ok 1 dX4_writeDeclaration_18 rfl rfl ?_
  refine tj_iload_n ok 2 dX4_writeDeclaration_19 rfl rfl ?_
  refine tj_ishr ok dX4_writeDeclaration_20 ?_
  refine tj_iconst (v := 1) ok dX4_writeDeclaration_21 (by decide) ?_
  refine tj_iand ok dX4_writeDeclaration_22 ?_
  refine tj_if_eq (tgt := 34) ok dX4_writeDeclaration_23 (by decide) (fun hc => ?_) (fun hc => ?_)
  · rw [if_pos hc] at hf
    exact (q_X4_writeDeclaration_34 hr12 hf).2 X g K ok nmx lev hK en
  · rw [if_neg hc] at hf
    exact (q_X4_writeDeclaration_26 hr12 hf).2 X g K ok nmx lev hK en
def b_X4_writeDeclaration_12 (r12 : Nat → Int32 → Int32 → AH → Option (AH)) (a0 : Nat) (a2 : Int32) (a3 : Int32) (h : AH) : Option (AH) :=
  if (6 : Int32) ≤ a3 then b_X4_writeDeclaration_40 a0 h else b_X4_writeDeclaration_18 r12 a0 a2 a3 h
set_option maxHeartbeats 4000000 in
set_option maxRecDepth 100000 in
theorem q_X4_writeDeclaration_12 {hE : AH} {r12 : Nat → Int32 → Int32 → AH → Option (AH)} (hr12 : ∀ (b0 : Nat) (b2 : Int32) (b3 : Int32) (h : AH), r12 b0 b2 b3 h = some hE → JD cX4_writeDeclaration 4 RX4 "writeDeclaration" none (8) 12 [(0, .inr (.inr (b0))), (2, .inl (b2)), (3, .inl (b3))] [] h hE none) {a0 : Nat} {a2 : Int32} {a3 : Int32} {h : AH} (hf : b_X4_writeDeclaration_12 r12 a0 a2 a3 h = some hE) : JD cX4_writeDeclaration 4 RX4 "writeDeclaration" none (8) 12 [(0, .inr (.inr (a0))), (2, .inl (a2)), (3, .inl (a3))] [] h hE none := by
  unfold b_X4_writeDeclaration_12 at hf
  have mE : hp_n h ≤ hp_n hE ∧ hp_s h ≤ hp_s hE := by
    by_cases hc : (6 : Int32) ≤ a3
    · rw [if_pos hc] at hf; exact (q_X4_writeDeclaration_40 hf).1
    · rw [if_neg hc] at hf; exact (q_X4_writeDeclaration_18 hr12 hf).1
  refine ⟨by omega, fun X g K ok nmx lev hK en => ?_⟩
  refine tj_iload_n ok 2 dX4_writeDeclaration_12 rfl rfl ?_
  refine tj_bipush (v := 6) ok dX4_writeDeclaration_13 (by decide) ?_
  refine tj_icmp_ge (tgt := 40) ok dX4_writeDeclaration_15 (by decide) (fun hc => ?_) (fun hc => ?_)
  · rw [if_pos hc] at hf
    refine tj_sub (lv' := [(0, .inr (.inr (a0)))]) [0] rfl ?_
    exact (q_X4_writeDeclaration_40 hf).2 X g K ok nmx lev hK en
  · rw [if_neg hc] at hf
    exact (q_X4_writeDeclaration_18 hr12 hf).2 X g K ok nmx lev hK en
def l_X4_writeDeclaration_12 : Nat → Nat → Int32 → Int32 → AH → Option (AH)
  | 0 => fun _ _ _ _ => none
  | n + 1 => fun a0 a2 a3 h => b_X4_writeDeclaration_12 (l_X4_writeDeclaration_12 n) a0 a2 a3 h
theorem ql_X4_writeDeclaration_12 {n : Nat} {a0 : Nat} {a2 : Int32} {a3 : Int32} {h hE : AH} (hf : l_X4_writeDeclaration_12 n a0 a2 a3 h = some hE) : JD cX4_writeDeclaration 4 RX4 "writeDeclaration" none (8) 12 [(0, .inr (.inr (a0))), (2, .inl (a2)), (3, .inl (a3))] [] h hE none := by
  induction n generalizing a0 a2 a3 h with
  | zero => cases hf
  | succ n ih => exact q_X4_writeDeclaration_12 (fun _ _ _ _ hf => ih hf) hf
def b_X4_writeDeclaration_5 (a0 : Nat) (a1 : Nat) (a2 : Int32) (h : AH) : Option (AH) :=
  (ok_v h a0 4).bind fun x1 => (f_X4_writeWord a0 a1 h).bind fun h2 => l_X4_writeDeclaration_12 fu_ a0 a2 (0 : Int32) h2
set_option maxHeartbeats 4000000 in
set_option maxRecDepth 100000 in
theorem q_X4_writeDeclaration_5 {a0 : Nat} {a1 : Nat} {a2 : Int32} {h hE : AH} (hf : b_X4_writeDeclaration_5 a0 a1 a2 h = some hE) : JD cX4_writeDeclaration 4 RX4 "writeDeclaration" none (8) 5 [(0, .inr (.inr (a0))), (1, .inr (.inr (a1))), (2, .inl (a2))] [] h hE none := by
  unfold b_X4_writeDeclaration_5 at hf
  obtain ⟨x1, e1, hf⟩ := bnd hf
  obtain ⟨h2, e2, hf⟩ := bnd hf
  have k2 := c_X4_writeWord e2
  have m2 := (k2 default_g).1
  have J := ql_X4_writeDeclaration_12 hf
  have mE := J.1
  refine ⟨by omega, fun X g K ok nmx lev hK en => ?_⟩
  refine tj_aload_n ok 0 dX4_writeDeclaration_5 rfl rfl ?_
  refine tj_aload_n ok 1 dX4_writeDeclaration_6 rfl rfl ?_
  refine tj_callV (rest := ([] : List TV).map (vl g)) (as := [.inr (.inr (a1))]) ok lev (by omega) fcX4.1 (by decide) rfl (of_if e1).1 (k2 g) (CaX.of en (by omega)) kn_X4_writeWord wm_934 wm_935 wm_936 (rs_ok (Nat.le_of_ble_eq_true rfl)) rfl rfl dX4_writeDeclaration_7 ?_
  refine tj_iconst (v := 0) ok dX4_writeDeclaration_10 (by decide) ?_
  refine tj_istore_n (lv' := [(0, .inr (.inr (a0))), (1, .inr (.inr (a1))), (2, .inl (a2)), (3, .inl ((0 : Int32)))]) ok dX4_writeDeclaration_11 rfl (by decide) rfl ?_
  refine tj_sub (lv' := [(0, .inr (.inr (a0))), (2, .inl (a2)), (3, .inl ((0 : Int32)))]) [0, 2, 3] rfl ?_
  exact J.2 X g K ok nmx lev hK en
def b_X4_writeDeclaration_4  (h : AH) : Option (AH) :=
  some h
set_option maxHeartbeats 4000000 in
set_option maxRecDepth 100000 in
theorem q_X4_writeDeclaration_4 {h hE : AH} (hf : b_X4_writeDeclaration_4  h = some hE) : JD cX4_writeDeclaration 4 RX4 "writeDeclaration" none (8) 4 [] [] h hE none := by
  unfold b_X4_writeDeclaration_4 at hf
  have hh := Option.some.inj hf
  subst hh
  have mE : hp_n h ≤ hp_n h ∧ hp_s h ≤ hp_s h := ⟨Nat.le_refl _, Nat.le_refl _⟩
  refine ⟨by omega, fun X g K ok nmx lev hK en => ?_⟩
  exact tj_return ok en dX4_writeDeclaration_4
def b_X4_writeDeclaration_0 (a0 : Nat) (a1 : Nat) (a2 : Int32) (h : AH) : Option (AH) :=
  if a2 = 0 then b_X4_writeDeclaration_4 h else b_X4_writeDeclaration_5 a0 a1 a2 h
set_option maxHeartbeats 4000000 in
set_option maxRecDepth 100000 in
theorem q_X4_writeDeclaration_0 {a0 : Nat} {a1 : Nat} {a2 : Int32} {h hE : AH} (hf : b_X4_writeDeclaration_0 a0 a1 a2 h = some hE) : JD cX4_writeDeclaration 4 RX4 "writeDeclaration" none (8) 0 [(0, .inr (.inr (a0))), (1, .inr (.inr (a1))), (2, .inl (a2))] [] h hE none := by
  unfold b_X4_writeDeclaration_0 at hf
  have mE : hp_n h ≤ hp_n hE ∧ hp_s h ≤ hp_s hE := by
    by_cases hc : a2 = 0
    · rw [if_pos hc] at hf; exact (q_X4_writeDeclaration_4 hf).1
    · rw [if_neg hc] at hf; exact (q_X4_writeDeclaration_5 hf).1
  refine ⟨by omega, fun X g K ok nmx lev hK en => ?_⟩
  refine tj_iload_n ok 2 dX4_writeDeclaration_0 rfl rfl ?_
  refine tj_if_ne (tgt := 5) ok dX4_writeDeclaration_1 (by decide) (fun hc => ?_) (fun hc => ?_)
  · rw [if_neg hc] at hf
    exact (q_X4_writeDeclaration_5 hf).2 X g K ok nmx lev hK en
  · rw [if_pos hc] at hf
    refine tj_sub (lv' := []) [] rfl ?_
    exact (q_X4_writeDeclaration_4 hf).2 X g K ok nmx lev hK en
def f_X4_writeDeclaration (a0 : Nat) (a1 : Nat) (a2 : Int32) (h : AH) : Option (AH) := b_X4_writeDeclaration_0  a0 a1 a2 h
theorem c_X4_writeDeclaration {a0 : Nat} {a1 : Nat} {a2 : Int32} {h hE : AH} (hf : f_X4_writeDeclaration a0 a1 a2 h = some hE) : ∀ g : GT, CM g (8) yX4_writeDeclaration cX4_writeDeclaration 4 none h [.inr (.inr (a0)), .inr (.inr (a1)), .inl (a2)] hE none :=
  CM.ofJ (by decide) (by show _ ≤ 4; exact Nat.le_of_ble_eq_true rfl) (q_X4_writeDeclaration_0 hf)
/-! ===== LitmusHouse$Printer.writeName(II)V ===== -/
def b_X4_writeName_0 (a0 : Nat) (a1 : Int32) (a2 : Int32) (h : AH) : Option (AH) :=
  (ok_v h a0 4).bind fun x1 => (f_X4_putGap a0 h).bind fun h2 => (ok_v h2 a0 4).bind fun x3 => (f_X4_put a0 a1 h2).bind fun h4 => (ok_v h4 a0 4).bind fun x5 => (f_X4_put a0 ((48 : Int32) + a2) h4).bind fun h6 => some h6
set_option maxHeartbeats 4000000 in
set_option maxRecDepth 100000 in
theorem q_X4_writeName_0 {a0 : Nat} {a1 : Int32} {a2 : Int32} {h hE : AH} (hf : b_X4_writeName_0 a0 a1 a2 h = some hE) : JD cX4_writeName 3 RX4 "writeName" none (4) 0 [(0, .inr (.inr (a0))), (1, .inl (a1)), (2, .inl (a2))] [] h hE none := by
  unfold b_X4_writeName_0 at hf
  obtain ⟨x1, e1, hf⟩ := bnd hf
  obtain ⟨h2, e2, hf⟩ := bnd hf
  have k2 := c_X4_putGap e2
  have m2 := (k2 default_g).1
  obtain ⟨x3, e3, hf⟩ := bnd hf
  obtain ⟨h4, e4, hf⟩ := bnd hf
  have k4 := c_X4_put e4
  have m4 := (k4 default_g).1
  obtain ⟨x5, e5, hf⟩ := bnd hf
  obtain ⟨h6, e6, hf⟩ := bnd hf
  have k6 := c_X4_put e6
  have m6 := (k6 default_g).1
  have hh := Option.some.inj hf
  subst hh
  have mE : hp_n h6 ≤ hp_n h6 ∧ hp_s h6 ≤ hp_s h6 := ⟨Nat.le_refl _, Nat.le_refl _⟩
  refine ⟨by omega, fun X g K ok nmx lev hK en => ?_⟩
  refine tj_aload_n ok 0 dX4_writeName_0 rfl rfl ?_
  refine tj_callV (rest := ([] : List TV).map (vl g)) (as := []) ok lev (by omega) fcX4.1 (by decide) rfl (of_if e1).1 (k2 g) (CaX.of en (by omega)) kn_X4_putGap wm_917 wm_918 wm_919 (rs_ok (Nat.le_of_ble_eq_true rfl)) rfl rfl dX4_writeName_1 ?_
  refine tj_aload_n ok 0 dX4_writeName_4 rfl rfl ?_
  refine tj_iload_n ok 1 dX4_writeName_5 rfl rfl ?_
  refine tj_callV (rest := ([] : List TV).map (vl g)) (as := [.inl (a1)]) ok lev (by omega) fcX4.1 (by decide) rfl (of_if e3).1 (k4 g) (CaX.of en (by omega)) kn_X4_put wm_908 wm_909 wm_910 (rs_ok (Nat.le_of_ble_eq_true rfl)) rfl rfl dX4_writeName_6 ?_
  refine tj_aload_n ok 0 dX4_writeName_9 rfl rfl ?_
  refine tj_bipush (v := 48) ok dX4_writeName_10 (by decide) ?_
  refine tj_iload_n ok 2 dX4_writeName_12 rfl rfl ?_
  refine tj_iadd ok dX4_writeName_13 ?_
  refine tj_callV (rest := ([] : List TV).map (vl g)) (as := [.inl ((48 : Int32) + a2)]) ok lev (by omega) fcX4.1 (by decide) rfl (of_if e5).1 (k6 g) (CaX.of en (by omega)) kn_X4_put wm_908 wm_909 wm_910 (rs_ok (Nat.le_of_ble_eq_true rfl)) rfl rfl dX4_writeName_14 ?_
  exact tj_return ok en dX4_writeName_17
def f_X4_writeName (a0 : Nat) (a1 : Int32) (a2 : Int32) (h : AH) : Option (AH) := b_X4_writeName_0  a0 a1 a2 h
theorem c_X4_writeName {a0 : Nat} {a1 : Int32} {a2 : Int32} {h hE : AH} (hf : f_X4_writeName a0 a1 a2 h = some hE) : ∀ g : GT, CM g (4) yX4_writeName cX4_writeName 3 none h [.inr (.inr (a0)), .inl (a1), .inl (a2)] hE none :=
  CM.ofJ (by decide) (by show _ ≤ 3; exact Nat.le_of_ble_eq_true rfl) (q_X4_writeName_0 hf)
/-! ===== LitmusHouse$Printer.writeAssignment(LLitmusHouse$Code;I)V ===== -/
def b_X4_writeAssignment_163 (a0 : Nat) (h : AH) : Option (AH) :=
  (ok_v h a0 4).bind fun x1 => (f_X4_endStatement a0 h).bind fun h2 => some h2
set_option maxHeartbeats 4000000 in
set_option maxRecDepth 100000 in
theorem q_X4_writeAssignment_163 {a0 : Nat} {h hE : AH} (hf : b_X4_writeAssignment_163 a0 h = some hE) : JD cX4_writeAssignment 5 RX4 "writeAssignment" none (8) 163 [(0, .inr (.inr (a0)))] [] h hE none := by
  unfold b_X4_writeAssignment_163 at hf
  obtain ⟨x1, e1, hf⟩ := bnd hf
  obtain ⟨h2, e2, hf⟩ := bnd hf
  have k2 := c_X4_endStatement e2
  have m2 := (k2 default_g).1
  have hh := Option.some.inj hf
  subst hh
  have mE : hp_n h2 ≤ hp_n h2 ∧ hp_s h2 ≤ hp_s h2 := ⟨Nat.le_refl _, Nat.le_refl _⟩
  refine ⟨by omega, fun X g K ok nmx lev hK en => ?_⟩
  refine tj_aload_n ok 0 dX4_writeAssignment_163 rfl rfl ?_
  refine tj_callV (rest := ([] : List TV).map (vl g)) (as := []) ok lev (by omega) fcX4.1 (by decide) rfl (of_if e1).1 (k2 g) (CaX.of en (by omega)) kn_X4_endStatement wm_928 wm_929 wm_930 (rs_ok (Nat.le_of_ble_eq_true rfl)) rfl rfl dX4_writeAssignment_164 ?_
  exact tj_return ok en dX4_writeAssignment_167
def b_X4_writeAssignment_150 (a0 : Nat) (a1 : Nat) (a3 : Int32) (h : AH) : Option (AH) :=
  (g_r h a1 0 3).bind fun x1 => (l_i h x1 a3).bind fun x2 => (ok_v h a0 4).bind fun x3 => (f_X4_writeSign a0 ((48 : Int32) + x2) h).bind fun h4 => b_X4_writeAssignment_163 a0 h4
set_option maxHeartbeats 4000000 in
set_option maxRecDepth 100000 in
theorem q_X4_writeAssignment_150 {a0 : Nat} {a1 : Nat} {a3 : Int32} {h hE : AH} (hf : b_X4_writeAssignment_150 a0 a1 a3 h = some hE) : JD cX4_writeAssignment 5 RX4 "writeAssignment" none (8) 150 [(0, .inr (.inr (a0))), (1, .inr (.inr (a1))), (3, .inl (a3))] [] h hE none := by
  unfold b_X4_writeAssignment_150 at hf
  obtain ⟨x1, e1, hf⟩ := bnd hf
  obtain ⟨x2, e2, hf⟩ := bnd hf
  obtain ⟨x3, e3, hf⟩ := bnd hf
  obtain ⟨h4, e4, hf⟩ := bnd hf
  have k4 := c_X4_writeSign e4
  have m4 := (k4 default_g).1
  have J := q_X4_writeAssignment_163 hf
  have mE := J.1
  refine ⟨by omega, fun X g K ok nmx lev hK en => ?_⟩
  refine tj_aload_n ok 0 dX4_writeAssignment_150 rfl rfl ?_
  refine tj_bipush (v := 48) ok dX4_writeAssignment_151 (by decide) ?_
  refine tj_aload_n ok 1 dX4_writeAssignment_153 rfl rfl ?_
  refine tj_getR (k := 3) ok fcX0 (by decide) wm_939 rfl (Or.inr ⟨_, rfl⟩) dX4_writeAssignment_154 e1 ?_
  refine tj_iload_n ok 2 dX4_writeAssignment_157 rfl rfl ?_
  refine tj_iaload ok dX4_writeAssignment_158 e2 ?_
  refine tj_iadd ok dX4_writeAssignment_159 ?_
  refine tj_callV (rest := ([] : List TV).map (vl g)) (as := [.inl ((48 : Int32) + x2)]) ok lev (by omega) fcX4.1 (by decide) rfl (of_if e3).1 (k4 g) (CaX.of en (by omega)) kn_X4_writeSign wm_931 wm_932 wm_933 (rs_ok (Nat.le_of_ble_eq_true rfl)) rfl rfl dX4_writeAssignment_160 ?_
  refine tj_sub (lv' := [(0, .inr (.inr (a0)))]) [0] rfl ?_
  exact J.2 X g K ok nmx lev hK en
def b_X4_writeAssignment_144 (a0 : Nat) (a1 : Nat) (a3 : Int32) (h : AH) : Option (AH) :=
  (ok_v h a0 4).bind fun x1 => (f_X4_writeWord a0 17 h).bind fun h2 => b_X4_writeAssignment_150 a0 a1 a3 h2
set_option maxHeartbeats 4000000 in
set_option maxRecDepth 100000 in
theorem q_X4_writeAssignment_144 {a0 : Nat} {a1 : Nat} {a3 : Int32} {h hE : AH} (hf : b_X4_writeAssignment_144 a0 a1 a3 h = some hE) : JD cX4_writeAssignment 5 RX4 "writeAssignment" none (8) 144 [(0, .inr (.inr (a0))), (1, .inr (.inr (a1))), (3, .inl (a3))] [] h hE none := by
  unfold b_X4_writeAssignment_144 at hf
  obtain ⟨x1, e1, hf⟩ := bnd hf
  obtain ⟨h2, e2, hf⟩ := bnd hf
  have k2 := c_X4_writeWord e2
  have m2 := (k2 default_g).1
  have J := q_X4_writeAssignment_150 hf
  have mE := J.1
  refine ⟨by omega, fun X g K ok nmx lev hK en => ?_⟩
  refine tj_aload_n ok 0 dX4_writeAssignment_144 rfl rfl ?_
  refine tj_ldcS (r := 17) ok (i := 23) rfl ⟨by decide, by decide⟩ dX4_writeAssignment_145 ?_
  refine tj_callV (rest := ([] : List TV).map (vl g)) (as := [.inr (.inr (17))]) ok lev (by omega) fcX4.1 (by decide) rfl (of_if e1).1 (k2 g) (CaX.of en (by omega)) kn_X4_writeWord wm_934 wm_935 wm_936 (rs_ok (Nat.le_of_ble_eq_true rfl)) rfl rfl dX4_writeAssignment_147 ?_
  exact J.2 X g K ok nmx lev hK en
def b_X4_writeAssignment_134 (a0 : Nat) (a1 : Nat) (a3 : Int32) (h : AH) : Option (AH) :=
  (g_r h a1 0 2).bind fun x1 => (l_i h x1 a3).bind fun x2 => if x2 = (-1 : Int32) then b_X4_writeAssignment_150 a0 a1 a3 h else b_X4_writeAssignment_144 a0 a1 a3 h
set_option maxHeartbeats 4000000 in
set_option maxRecDepth 100000 in
theorem q_X4_writeAssignment_134 {a0 : Nat} {a1 : Nat} {a3 : Int32} {h hE : AH} (hf : b_X4_writeAssignment_134 a0 a1 a3 h = some hE) : JD cX4_writeAssignment 5 RX4 "writeAssignment" none (8) 134 [(0, .inr (.inr (a0))), (1, .inr (.inr (a1))), (3, .inl (a3))] [] h hE none := by
  unfold b_X4_writeAssignment_134 at hf
  obtain ⟨x1, e1, hf⟩ := bnd hf
  obtain ⟨x2, e2, hf⟩ := bnd hf
  have mE : hp_n h ≤ hp_n hE ∧ hp_s h ≤ hp_s hE := by
    by_cases hc : x2 = (-1 : Int32)
    · rw [if_pos hc] at hf; exact (q_X4_writeAssignment_150 hf).1
    · rw [if_neg hc] at hf; exact (q_X4_writeAssignment_144 hf).1
  refine ⟨by omega, fun X g K ok nmx lev hK en => ?_⟩
  refine tj_aload_n ok 1 dX4_writeAssignment_134 rfl rfl ?_
  refine tj_getR (k := 2) ok fcX0 (by decide) wm_940 rfl (Or.inr ⟨_, rfl⟩) dX4_writeAssignment_135 e1 ?_
  refine tj_iload_n ok 2 dX4_writeAssignment_138 rfl rfl ?_
  refine tj_iaload ok dX4_writeAssignment_139 e2 ?_
  refine tj_iconst (v := -1) ok dX4_writeAssignment_140 (by decide) ?_
  refine tj_icmp_eq (tgt := 150) ok dX4_writeAssignment_141 (by decide) (fun hc => ?_) (fun hc => ?_)
  · rw [if_pos hc] at hf
    exact (q_X4_writeAssignment_150 hf).2 X g K ok nmx lev hK en
  · rw [if_neg hc] at hf
    exact (q_X4_writeAssignment_144 hf).2 X g K ok nmx lev hK en
def b_X4_writeAssignment_124 (a0 : Nat) (a1 : Nat) (a3 : Int32) (h : AH) : Option (AH) :=
  (g_r h a1 0 3).bind fun x1 => (l_i h x1 a3).bind fun x2 => if x2 = (-1 : Int32) then b_X4_writeAssignment_163 a0 h else b_X4_writeAssignment_134 a0 a1 a3 h
set_option maxHeartbeats 4000000 in
set_option maxRecDepth 100000 in
theorem q_X4_writeAssignment_124 {a0 : Nat} {a1 : Nat} {a3 : Int32} {h hE : AH} (hf : b_X4_writeAssignment_124 a0 a1 a3 h = some hE) : JD cX4_writeAssignment 5 RX4 "writeAssignment" none (8) 124 [(0, .inr (.inr (a0))), (1, .inr (.inr (a1))), (3, .inl (a3))] [] h hE none := by
  unfold b_X4_writeAssignment_124 at hf
  obtain ⟨x1, e1, hf⟩ := bnd hf
  obtain ⟨x2, e2, hf⟩ := bnd hf
  have mE : hp_n h ≤ hp_n hE ∧ hp_s h ≤ hp_s hE := by
    by_cases hc : x2 = (-1 : Int32)
    · rw [if_pos hc] at hf; exact (q_X4_writeAssignment_163 hf).1
    · rw [if_neg hc] at hf; exact (q_X4_writeAssignment_134 hf).1
  refine ⟨by omega, fun X g K ok nmx lev hK en => ?_⟩
  refine tj_aload_n ok 1 dX4_writeAssignment_124 rfl rfl ?_
  refine tj_getR (k := 3) ok fcX0 (by decide) wm_939 rfl (Or.inr ⟨_, rfl⟩) dX4_writeAssignment_125 e1 ?_
  refine tj_iload_n ok 2 dX4_writeAssignment_128 rfl rfl ?_
  refine tj_iaload ok dX4_writeAssignment_129 e2 ?_
  refine tj_iconst (v := -1) ok dX4_writeAssignment_130 (by decide) ?_
  refine tj_icmp_eq (tgt := 163) ok dX4_writeAssignment_131 (by decide) (fun hc => ?_) (fun hc => ?_)
  · rw [if_pos hc] at hf
    refine tj_sub (lv' := [(0, .inr (.inr (a0)))]) [0] rfl ?_
    exact (q_X4_writeAssignment_163 hf).2 X g K ok nmx lev hK en
  · rw [if_neg hc] at hf
    exact (q_X4_writeAssignment_134 hf).2 X g K ok nmx lev hK en
def b_X4_writeAssignment_102 (a0 : Nat) (a1 : Nat) (a3 : Int32) (h : AH) : Option (AH) :=
  (ok_v h a0 4).bind fun x1 => (f_X4_put a0 (46 : Int32) h).bind fun h2 => (g_r h2 a1 0 4).bind fun x3 => (l_i h2 x3 a3).bind fun x4 => (ok_v h2 a0 4).bind fun x5 => (f_X4_put a0 ((117 : Int32) + x4) h2).bind fun h6 => b_X4_writeAssignment_163 a0 h6
set_option maxHeartbeats 4000000 in
set_option maxRecDepth 100000 in
theorem q_X4_writeAssignment_102 {a0 : Nat} {a1 : Nat} {a3 : Int32} {h hE : AH} (hf : b_X4_writeAssignment_102 a0 a1 a3 h = some hE) : JD cX4_writeAssignment 5 RX4 "writeAssignment" none (8) 102 [(0, .inr (.inr (a0))), (1, .inr (.inr (a1))), (3, .inl (a3))] [] h hE none := by
  unfold b_X4_writeAssignment_102 at hf
  obtain ⟨x1, e1, hf⟩ := bnd hf
  obtain ⟨h2, e2, hf⟩ := bnd hf
  have k2 := c_X4_put e2
  have m2 := (k2 default_g).1
  obtain ⟨x3, e3, hf⟩ := bnd hf
  obtain ⟨x4, e4, hf⟩ := bnd hf
  obtain ⟨x5, e5, hf⟩ := bnd hf
  obtain ⟨h6, e6, hf⟩ := bnd hf
  have k6 := c_X4_put e6
  have m6 := (k6 default_g).1
  have J := q_X4_writeAssignment_163 hf
  have mE := J.1
  refine ⟨by omega, fun X g K ok nmx lev hK en => ?_⟩
  refine tj_aload_n ok 0 dX4_writeAssignment_102 rfl rfl ?_
  refine tj_bipush (v := 46) ok dX4_writeAssignment_103 (by decide) ?_
  refine tj_callV (rest := ([] : List TV).map (vl g)) (as := [.inl ((46 : Int32))]) ok lev (by omega) fcX4.1 (by decide) rfl (of_if e1).1 (k2 g) (CaX.of en (by omega)) kn_X4_put wm_908 wm_909 wm_910 (rs_ok (Nat.le_of_ble_eq_true rfl)) rfl rfl dX4_writeAssignment_105 ?_
  refine tj_aload_n ok 0 dX4_writeAssignment_108 rfl rfl ?_
  refine tj_bipush (v := 117) ok dX4_writeAssignment_109 (by decide) ?_
  refine tj_aload_n ok 1 dX4_writeAssignment_111 rfl rfl ?_
  refine tj_getR (k := 4) ok fcX0 (by decide) wm_941 rfl (Or.inr ⟨_, rfl⟩) dX4_writeAssignment_112 e3 ?_
  refine tj_iload_n ok 2 dX4_writeAssignment_115 rfl rfl ?_
  refine tj_iaload ok dX4_writeAssignment_116 e4 ?_
  refine tj_iadd ok dX4_writeAssignment_117 ?_
  refine tj_callV (rest := ([] : List TV).map (vl g)) (as := [.inl ((117 : Int32) + x4)]) ok lev (by omega) fcX4.1 (by decide) rfl (of_if e5).1 (k6 g) (CaX.of en (by omega)) kn_X4_put wm_908 wm_909 wm_910 (rs_ok (Nat.le_of_ble_eq_true rfl)) rfl rfl dX4_writeAssignment_118 ?_
  refine tj_goto (tgt := 163) ok dX4_writeAssignment_121 (by decide) ?_
  refine tj_sub (lv' := [(0, .inr (.inr (a0)))]) [0] rfl ?_
  exact J.2 X g K ok nmx lev hK en
def b_X4_writeAssignment_96 (a0 : Nat) (a1 : Nat) (a3 : Int32) (a4 : Int32) (h : AH) : Option (AH) :=
  if a4 = (2 : Int32) then b_X4_writeAssignment_102 a0 a1 a3 h else b_X4_writeAssignment_124 a0 a1 a3 h
set_option maxHeartbeats 4000000 in
set_option maxRecDepth 100000 in
theorem q_X4_writeAssignment_96 {a0 : Nat} {a1 : Nat} {a3 : Int32} {a4 : Int32} {h hE : AH} (hf : b_X4_writeAssignment_96 a0 a1 a3 a4 h = some hE) : JD cX4_writeAssignment 5 RX4 "writeAssignment" none (8) 96 [(0, .inr (.inr (a0))), (1, .inr (.inr (a1))), (3, .inl (a3)), (4, .inl (a4))] [] h hE none := by
  unfold b_X4_writeAssignment_96 at hf
  have mE : hp_n h ≤ hp_n hE ∧ hp_s h ≤ hp_s hE := by
    by_cases hc : a4 = (2 : Int32)
    · rw [if_pos hc] at hf; exact (q_X4_writeAssignment_102 hf).1
    · rw [if_neg hc] at hf; exact (q_X4_writeAssignment_124 hf).1
  refine ⟨by omega, fun X g K ok nmx lev hK en => ?_⟩
  refine tj_iload ok 3 dX4_writeAssignment_96 rfl ?_
  refine tj_iconst (v := 2) ok dX4_writeAssignment_98 (by decide) ?_
  refine tj_icmp_ne (tgt := 124) ok dX4_writeAssignment_99 (by decide) (fun hc => ?_) (fun hc => ?_)
  · rw [if_neg hc] at hf
    refine tj_sub (lv' := [(0, .inr (.inr (a0))), (1, .inr (.inr (a1))), (3, .inl (a3))]) [0, 1, 2] rfl ?_
    exact (q_X4_writeAssignment_124 hf).2 X g K ok nmx lev hK en
  · rw [if_pos hc] at hf
    refine tj_sub (lv' := [(0, .inr (.inr (a0))), (1, .inr (.inr (a1))), (3, .inl (a3))]) [0, 1, 2] rfl ?_
    exact (q_X4_writeAssignment_102 hf).2 X g K ok nmx lev hK en
def b_X4_writeAssignment_80 (a0 : Nat) (a1 : Nat) (a3 : Int32) (h : AH) : Option (AH) :=
  (g_r h a1 0 4).bind fun x1 => (l_i h x1 a3).bind fun x2 => (ok_v h a0 4).bind fun x3 => (f_X4_writeSign a0 ((117 : Int32) + x2) h).bind fun h4 => b_X4_writeAssignment_163 a0 h4
set_option maxHeartbeats 4000000 in
set_option maxRecDepth 100000 in
theorem q_X4_writeAssignment_80 {a0 : Nat} {a1 : Nat} {a3 : Int32} {h hE : AH} (hf : b_X4_writeAssignment_80 a0 a1 a3 h = some hE) : JD cX4_writeAssignment 5 RX4 "writeAssignment" none (8) 80 [(0, .inr (.inr (a0))), (1, .inr (.inr (a1))), (3, .inl (a3))] [] h hE none := by
  unfold b_X4_writeAssignment_80 at hf
  obtain ⟨x1, e1, hf⟩ := bnd hf
  obtain ⟨x2, e2, hf⟩ := bnd hf
  obtain ⟨x3, e3, hf⟩ := bnd hf
  obtain ⟨h4, e4, hf⟩ := bnd hf
  have k4 := c_X4_writeSign e4
  have m4 := (k4 default_g).1
  have J := q_X4_writeAssignment_163 hf
  have mE := J.1
  refine ⟨by omega, fun X g K ok nmx lev hK en => ?_⟩
  refine tj_aload_n ok 0 dX4_writeAssignment_80 rfl rfl ?_
  refine tj_bipush (v := 117) ok dX4_writeAssignment_81 (by decide) ?_
  refine tj_aload_n ok 1 dX4_writeAssignment_83 rfl rfl ?_
  refine tj_getR (k := 4) ok fcX0 (by decide) wm_941 rfl (Or.inr ⟨_, rfl⟩) dX4_writeAssignment_84 e1 ?_
  refine tj_iload_n ok 2 dX4_writeAssignment_87 rfl rfl ?_
  refine tj_iaload ok dX4_writeAssignment_88 e2 ?_
  refine tj_iadd ok dX4_writeAssignment_89 ?_
  refine tj_callV (rest := ([] : List TV).map (vl g)) (as := [.inl ((117 : Int32) + x2)]) ok lev (by omega) fcX4.1 (by decide) rfl (of_if e3).1 (k4 g) (CaX.of en (by omega)) kn_X4_writeSign wm_931 wm_932 wm_933 (rs_ok (Nat.le_of_ble_eq_true rfl)) rfl rfl dX4_writeAssignment_90 ?_
  refine tj_goto (tgt := 163) ok dX4_writeAssignment_93 (by decide) ?_
  refine tj_sub (lv' := [(0, .inr (.inr (a0)))]) [0] rfl ?_
  exact J.2 X g K ok nmx lev hK en
def b_X4_writeAssignment_75 (a0 : Nat) (a1 : Nat) (a3 : Int32) (a4 : Int32) (h : AH) : Option (AH) :=
  if a4 = 0 then b_X4_writeAssignment_80 a0 a1 a3 h else b_X4_writeAssignment_96 a0 a1 a3 a4 h
set_option maxHeartbeats 4000000 in
set_option maxRecDepth 100000 in
theorem q_X4_writeAssignment_75 {a0 : Nat} {a1 : Nat} {a3 : Int32} {a4 : Int32} {h hE : AH} (hf : b_X4_writeAssignment_75 a0 a1 a3 a4 h = some hE) : JD cX4_writeAssignment 5 RX4 "writeAssignment" none (8) 75 [(0, .inr (.inr (a0))), (1, .inr (.inr (a1))), (3, .inl (a3)), (4, .inl (a4))] [] h hE none := by
  unfold b_X4_writeAssignment_75 at hf
  have mE : hp_n h ≤ hp_n hE ∧ hp_s h ≤ hp_s hE := by
    by_cases hc : a4 = 0
    · rw [if_pos hc] at hf; exact (q_X4_writeAssignment_80 hf).1
    · rw [if_neg hc] at hf; exact (q_X4_writeAssignment_96 hf).1
  refine ⟨by omega, fun X g K ok nmx lev hK en => ?_⟩
  refine tj_iload ok 3 dX4_writeAssignment_75 rfl ?_
  refine tj_if_ne (tgt := 96) ok dX4_writeAssignment_77 (by decide) (fun hc => ?_) (fun hc => ?_)
  · rw [if_neg hc] at hf
    exact (q_X4_writeAssignment_96 hf).2 X g K ok nmx lev hK en
  · rw [if_pos hc] at hf
    refine tj_sub (lv' := [(0, .inr (.inr (a0))), (1, .inr (.inr (a1))), (3, .inl (a3))]) [0, 1, 2] rfl ?_
    exact (q_X4_writeAssignment_80 hf).2 X g K ok nmx lev hK en
def b_X4_writeAssignment_63 (a0 : Nat) (a1 : Nat) (a3 : Int32) (a4 : Int32) (h : AH) : Option (AH) :=
  (g_r h a1 0 2).bind fun x1 => (l_i h x1 a3).bind fun x2 => (ok_v h a0 4).bind fun x3 => (f_X4_writeName a0 (114 : Int32) x2 h).bind fun h4 => b_X4_writeAssignment_75 a0 a1 a3 a4 h4
set_option maxHeartbeats 4000000 in
set_option maxRecDepth 100000 in
theorem q_X4_writeAssignment_63 {a0 : Nat} {a1 : Nat} {a3 : Int32} {a4 : Int32} {h hE : AH} (hf : b_X4_writeAssignment_63 a0 a1 a3 a4 h = some hE) : JD cX4_writeAssignment 5 RX4 "writeAssignment" none (8) 63 [(0, .inr (.inr (a0))), (1, .inr (.inr (a1))), (3, .inl (a3)), (4, .inl (a4))] [] h hE none := by
  unfold b_X4_writeAssignment_63 at hf
  obtain ⟨x1, e1, hf⟩ := bnd hf
  obtain ⟨x2, e2, hf⟩ := bnd hf
  obtain ⟨x3, e3, hf⟩ := bnd hf
  obtain ⟨h4, e4, hf⟩ := bnd hf
  have k4 := c_X4_writeName e4
  have m4 := (k4 default_g).1
  have J := q_X4_writeAssignment_75 hf
  have mE := J.1
  refine ⟨by omega, fun X g K ok nmx lev hK en => ?_⟩
  refine tj_aload_n ok 0 dX4_writeAssignment_63 rfl rfl ?_
  refine tj_bipush (v := 114) ok dX4_writeAssignment_64 (by decide) ?_
  refine tj_aload_n ok 1 dX4_writeAssignment_66 rfl rfl ?_
  refine tj_getR (k := 2) ok fcX0 (by decide) wm_940 rfl (Or.inr ⟨_, rfl⟩) dX4_writeAssignment_67 e1 ?_
  refine tj_iload_n ok 2 dX4_writeAssignment_70 rfl rfl ?_
  refine tj_iaload ok dX4_writeAssignment_71 e2 ?_
  refine tj_callV (rest := ([] : List TV).map (vl g)) (as := [.inl ((114 : Int32)), .inl (x2)]) ok lev (by omega) fcX4.1 (by decide) rfl (of_if e3).1 (k4 g) (CaX.of en (by omega)) kn_X4_writeName wm_942 wm_943 wm_944 (rs_ok (Nat.le_of_ble_eq_true rfl)) rfl rfl dX4_writeAssignment_72 ?_
  exact J.2 X g K ok nmx lev hK en
def b_X4_writeAssignment_47 (a0 : Nat) (a1 : Nat) (a3 : Int32) (a4 : Int32) (h : AH) : Option (AH) :=
  (ok_v h a0 4).bind fun x1 => (f_X4_writeWord a0 16 h).bind fun h2 => (g_r h2 a1 0 2).bind fun x3 => (l_i h2 x3 a3).bind fun x4 => if x4 = (-1 : Int32) then b_X4_writeAssignment_75 a0 a1 a3 a4 h2 else b_X4_writeAssignment_63 a0 a1 a3 a4 h2
set_option maxHeartbeats 4000000 in
set_option maxRecDepth 100000 in
theorem q_X4_writeAssignment_47 {a0 : Nat} {a1 : Nat} {a3 : Int32} {a4 : Int32} {h hE : AH} (hf : b_X4_writeAssignment_47 a0 a1 a3 a4 h = some hE) : JD cX4_writeAssignment 5 RX4 "writeAssignment" none (8) 47 [(0, .inr (.inr (a0))), (1, .inr (.inr (a1))), (3, .inl (a3)), (4, .inl (a4))] [] h hE none := by
  unfold b_X4_writeAssignment_47 at hf
  obtain ⟨x1, e1, hf⟩ := bnd hf
  obtain ⟨h2, e2, hf⟩ := bnd hf
  have k2 := c_X4_writeWord e2
  have m2 := (k2 default_g).1
  obtain ⟨x3, e3, hf⟩ := bnd hf
  obtain ⟨x4, e4, hf⟩ := bnd hf
  have mE : hp_n h2 ≤ hp_n hE ∧ hp_s h2 ≤ hp_s hE := by
    by_cases hc : x4 = (-1 : Int32)
    · rw [if_pos hc] at hf; exact (q_X4_writeAssignment_75 hf).1
    · rw [if_neg hc] at hf; exact (q_X4_writeAssignment_63 hf).1
  refine ⟨by omega, fun X g K ok nmx lev hK en => ?_⟩
  refine tj_aload_n ok 0 dX4_writeAssignment_47 rfl rfl ?_
  refine tj_ldcS (r := 16) ok (i := 22) rfl ⟨by decide, by decide⟩ dX4_writeAssignment_48 ?_
  refine tj_callV (rest := ([] : List TV).map (vl g)) (as := [.inr (.inr (16))]) ok lev (by omega) fcX4.1 (by decide) rfl (of_if e1).1 (k2 g) (CaX.of en (by omega)) kn_X4_writeWord wm_934 wm_935 wm_936 (rs_ok (Nat.le_of_ble_eq_true rfl)) rfl rfl dX4_writeAssignment_50 ?_
  refine tj_aload_n ok 1 dX4_writeAssignment_53 rfl rfl ?_
  refine tj_getR (k := 2) ok fcX0 (by decide) wm_940 rfl (Or.inr ⟨_, rfl⟩) dX4_writeAssignment_54 e3 ?_
  refine tj_iload_n ok 2 dX4_writeAssignment_57 rfl rfl ?_
  refine tj_iaload ok dX4_writeAssignment_58 e4 ?_
  refine tj_iconst (v := -1) ok dX4_writeAssignment_59 (by decide) ?_
  refine tj_icmp_eq (tgt := 75) ok dX4_writeAssignment_60 (by decide) (fun hc => ?_) (fun hc => ?_)
  · rw [if_pos hc] at hf
    exact (q_X4_writeAssignment_75 hf).2 X g K ok nmx lev hK en
  · rw [if_neg hc] at hf
    exact (q_X4_writeAssignment_63 hf).2 X g K ok nmx lev hK en
def b_X4_writeAssignment_35 (a0 : Nat) (a1 : Nat) (a3 : Int32) (a4 : Int32) (h : AH) : Option (AH) :=
  (g_r h a1 0 1).bind fun x1 => (l_i h x1 a3).bind fun x2 => (ok_v h a0 4).bind fun x3 => (f_X4_writeName a0 (114 : Int32) x2 h).bind fun h4 => b_X4_writeAssignment_47 a0 a1 a3 a4 h4
set_option maxHeartbeats 4000000 in
set_option maxRecDepth 100000 in
theorem q_X4_writeAssignment_35 {a0 : Nat} {a1 : Nat} {a3 : Int32} {a4 : Int32} {h hE : AH} (hf : b_X4_writeAssignment_35 a0 a1 a3 a4 h = some hE) : JD cX4_writeAssignment 5 RX4 "writeAssignment" none (8) 35 [(0, .inr (.inr (a0))), (1, .inr (.inr (a1))), (3, .inl (a3)), (4, .inl (a4))] [] h hE none := by
  unfold b_X4_writeAssignment_35 at hf
  obtain ⟨x1, e1, hf⟩ := bnd hf
  obtain ⟨x2, e2, hf⟩ := bnd hf
  obtain ⟨x3, e3, hf⟩ := bnd hf
  obtain ⟨h4, e4, hf⟩ := bnd hf
  have k4 := c_X4_writeName e4
  have m4 := (k4 default_g).1
  have J := q_X4_writeAssignment_47 hf
  have mE := J.1
  refine ⟨by omega, fun X g K ok nmx lev hK en => ?_⟩
  refine tj_aload_n ok 0 dX4_writeAssignment_35 rfl rfl ?_
  refine tj_bipush (v := 114) ok dX4_writeAssignment_36 (by decide) ?_
  refine tj_aload_n ok 1 dX4_writeAssignment_38 rfl rfl ?_
  refine tj_getR (k := 1) ok fcX0 (by decide) wm_945 rfl (Or.inr ⟨_, rfl⟩) dX4_writeAssignment_39 e1 ?_
  refine tj_iload_n ok 2 dX4_writeAssignment_42 rfl rfl ?_
  refine tj_iaload ok dX4_writeAssignment_43 e2 ?_
  refine tj_callV (rest := ([] : List TV).map (vl g)) (as := [.inl ((114 : Int32)), .inl (x2)]) ok lev (by omega) fcX4.1 (by decide) rfl (of_if e3).1 (k4 g) (CaX.of en (by omega)) kn_X4_writeName wm_942 wm_943 wm_944 (rs_ok (Nat.le_of_ble_eq_true rfl)) rfl rfl dX4_writeAssignment_44 ?_
  exact J.2 X g K ok nmx lev hK en
def b_X4_writeAssignment_19 (a0 : Nat) (a1 : Nat) (a3 : Int32) (a4 : Int32) (h : AH) : Option (AH) :=
  (g_r h a1 0 4).bind fun x1 => (l_i h x1 a3).bind fun x2 => (ok_v h a0 4).bind fun x3 => (f_X4_writeSign a0 ((117 : Int32) + x2) h).bind fun h4 => b_X4_writeAssignment_47 a0 a1 a3 a4 h4
set_option maxHeartbeats 4000000 in
set_option maxRecDepth 100000 in
theorem q_X4_writeAssignment_19 {a0 : Nat} {a1 : Nat} {a3 : Int32} {a4 : Int32} {h hE : AH} (hf : b_X4_writeAssignment_19 a0 a1 a3 a4 h = some hE) : JD cX4_writeAssignment 5 RX4 "writeAssignment" none (8) 19 [(0, .inr (.inr (a0))), (1, .inr (.inr (a1))), (3, .inl (a3)), (4, .inl (a4))] [] h hE none := by
  unfold b_X4_writeAssignment_19 at hf
  obtain ⟨x1, e1, hf⟩ := bnd hf
  obtain ⟨x2, e2, hf⟩ := bnd hf
  obtain ⟨x3, e3, hf⟩ := bnd hf
  obtain ⟨h4, e4, hf⟩ := bnd hf
  have k4 := c_X4_writeSign e4
  have m4 := (k4 default_g).1
  have J := q_X4_writeAssignment_47 hf
  have mE := J.1
  refine ⟨by omega, fun X g K ok nmx lev hK en => ?_⟩
  refine tj_aload_n ok 0 dX4_writeAssignment_19 rfl rfl ?_
  refine tj_bipush (v := 117) ok dX4_writeAssignment_20 (by decide) ?_
  refine tj_aload_n ok 1 dX4_writeAssignment_22 rfl rfl ?_
  refine tj_getR (k := 4) ok fcX0 (by decide) wm_941 rfl (Or.inr ⟨_, rfl⟩) dX4_writeAssignment_23 e1 ?_
  refine tj_iload_n ok 2 dX4_writeAssignment_26 rfl rfl ?_
  refine tj_iaload ok dX4_writeAssignment_27 e2 ?_
  refine tj_iadd ok dX4_writeAssignment_28 ?_
  refine tj_callV (rest := ([] : List TV).map (vl g)) (as := [.inl ((117 : Int32) + x2)]) ok lev (by omega) fcX4.1 (by decide) rfl (of_if e3).1 (k4 g) (CaX.of en (by omega)) kn_X4_writeSign wm_931 wm_932 wm_933 (rs_ok (Nat.le_of_ble_eq_true rfl)) rfl rfl dX4_writeAssignment_29 ?_
  refine tj_goto (tgt := 47) ok dX4_writeAssignment_32 (by decide) ?_
  exact J.2 X g K ok nmx lev hK en
def b_X4_writeAssignment_0 (a0 : Nat) (a1 : Nat) (a2 : Int32) (h : AH) : Option (AH) :=
  (g_r h a1 0 0).bind fun x1 => (l_i h x1 (a2 &&& (63 : Int32))).bind fun x2 => if x2 = (1 : Int32) then b_X4_writeAssignment_19 a0 a1 (a2 &&& (63 : Int32)) x2 h else b_X4_writeAssignment_35 a0 a1 (a2 &&& (63 : Int32)) x2 h
set_option maxHeartbeats 4000000 in
set_option maxRecDepth 100000 in
theorem q_X4_writeAssignment_0 {a0 : Nat} {a1 : Nat} {a2 : Int32} {h hE : AH} (hf : b_X4_writeAssignment_0 a0 a1 a2 h = some hE) : JD cX4_writeAssignment 5 RX4 "writeAssignment" none (8) 0 [(0, .inr (.inr (a0))), (1, .inr (.inr (a1))), (2, .inl (a2))] [] h hE none := by
  unfold b_X4_writeAssignment_0 at hf
  obtain ⟨x1, e1, hf⟩ := bnd hf
  obtain ⟨x2, e2, hf⟩ := bnd hf
  have mE : hp_n h ≤ hp_n hE ∧ hp_s h ≤ hp_s hE := by
    by_cases hc : x2 = (1 : Int32)
    · rw [if_pos hc] at hf; exact (q_X4_writeAssignment_19 hf).1
    · rw [if_neg hc] at hf; exact (q_X4_writeAssignment_35 hf).1
  refine ⟨by omega, fun X g K ok nmx lev hK en => ?_⟩
  refine tj_iload_n ok 2 dX4_writeAssignment_0 rfl rfl ?_
  refine tj_bipush (v := 63) ok dX4_writeAssignment_1 (by decide) ?_
  refine tj_iand ok dX4_writeAssignment_3 ?_
  refine tj_istore_n (lv' := [(0, .inr (.inr (a0))), (1, .inr (.inr (a1))), (2, .inl (a2)), (3, .inl (a2 &&& (63 : Int32)))]) ok dX4_writeAssignment_4 rfl (by decide) rfl ?_
  refine tj_aload_n ok 1 dX4_writeAssignment_5 rfl rfl ?_
  refine tj_getR (k := 0) ok fcX0 (by decide) wm_946 rfl (Or.inr ⟨_, rfl⟩) dX4_writeAssignment_6 e1 ?_
  refine tj_iload_n ok 3 dX4_writeAssignment_9 rfl rfl ?_
  refine tj_iaload ok dX4_writeAssignment_10 e2 ?_
  refine tj_istore (lv' := [(0, .inr (.inr (a0))), (1, .inr (.inr (a1))), (2, .inl (a2)), (3, .inl (a2 &&& (63 : Int32))), (4, .inl (x2))]) ok dX4_writeAssignment_11 (by decide) rfl ?_
  refine tj_iload ok 4 dX4_writeAssignment_13 rfl ?_
  refine tj_iconst (v := 1) ok dX4_writeAssignment_15 (by decide) ?_
  refine tj_icmp_ne (tgt := 35) ok dX4_writeAssignment_16 (by decide) (fun hc => ?_) (fun hc => ?_)
  · rw [if_neg hc] at hf
    refine tj_sub (lv' := [(0, .inr (.inr (a0))), (1, .inr (.inr (a1))), (3, .inl (a2 &&& (63 : Int32))), (4, .inl (x2))]) [0, 1, 3, 4] rfl ?_
    exact (q_X4_writeAssignment_35 hf).2 X g K ok nmx lev hK en
  · rw [if_pos hc] at hf
    refine tj_sub (lv' := [(0, .inr (.inr (a0))), (1, .inr (.inr (a1))), (3, .inl (a2 &&& (63 : Int32))), (4, .inl (x2))]) [0, 1, 3, 4] rfl ?_
    exact (q_X4_writeAssignment_19 hf).2 X g K ok nmx lev hK en
def f_X4_writeAssignment (a0 : Nat) (a1 : Nat) (a2 : Int32) (h : AH) : Option (AH) := b_X4_writeAssignment_0  a0 a1 a2 h
theorem c_X4_writeAssignment {a0 : Nat} {a1 : Nat} {a2 : Int32} {h hE : AH} (hf : f_X4_writeAssignment a0 a1 a2 h = some hE) : ∀ g : GT, CM g (8) yX4_writeAssignment cX4_writeAssignment 5 none h [.inr (.inr (a0)), .inr (.inr (a1)), .inl (a2)] hE none :=
  CM.ofJ (by decide) (by show _ ≤ 5; exact Nat.le_of_ble_eq_true rfl) (q_X4_writeAssignment_0 hf)
/-! ===== LitmusHouse$Printer.writeEntry(LLitmusHouse$Code;I)V ===== -/
def b_X4_writeEntry_187  (h : AH) : Option (AH) :=
  some h
set_option maxHeartbeats 4000000 in
set_option maxRecDepth 100000 in
theorem q_X4_writeEntry_187 {h hE : AH} (hf : b_X4_writeEntry_187  h = some hE) : JD cX4_writeEntry 4 RX4 "writeEntry" none (9) 187 [] [] h hE none := by
  unfold b_X4_writeEntry_187 at hf
  have hh := Option.some.inj hf
  subst hh
  have mE : hp_n h ≤ hp_n h ∧ hp_s h ≤ hp_s h := ⟨Nat.le_refl _, Nat.le_refl _⟩
  refine ⟨by omega, fun X g K ok nmx lev hK en => ?_⟩
  exact tj_return ok en dX4_writeEntry_187
def b_X4_writeEntry_70 (a0 : Nat) (a1 : Nat) (a3 : Int32) (s0 : Nat) (s1 : Nat) (h : AH) : Option (AH) :=
  (ok_v h s0 4).bind fun x1 => (f_X4_writeWord s0 s1 h).bind fun h2 => (g_r h2 a1 0 4).bind fun x3 => (l_i h2 x3 a3).bind fun x4 => (ok_v h2 a0 4).bind fun x5 => (f_X4_writeName a0 (109 : Int32) x4 h2).bind fun h6 => (ok_v h6 a0 4).bind fun x7 => (f_X4_endStatement a0 h6).bind fun h8 => b_X4_writeEntry_187 h8
set_option maxHeartbeats 4000000 in
set_option maxRecDepth 100000 in
theorem q_X4_writeEntry_70 {a0 : Nat} {a1 : Nat} {a3 : Int32} {s0 : Nat} {s1 : Nat} {h hE : AH} (hf : b_X4_writeEntry_70 a0 a1 a3 s0 s1 h = some hE) : JD cX4_writeEntry 4 RX4 "writeEntry" none (9) 70 [(0, .inr (.inr (a0))), (1, .inr (.inr (a1))), (3, .inl (a3))] [.inr (.inr (s1)), .inr (.inr (s0))] h hE none := by
  unfold b_X4_writeEntry_70 at hf
  obtain ⟨x1, e1, hf⟩ := bnd hf
  obtain ⟨h2, e2, hf⟩ := bnd hf
  have k2 := c_X4_writeWord e2
  have m2 := (k2 default_g).1
  obtain ⟨x3, e3, hf⟩ := bnd hf
  obtain ⟨x4, e4, hf⟩ := bnd hf
  obtain ⟨x5, e5, hf⟩ := bnd hf
  obtain ⟨h6, e6, hf⟩ := bnd hf
  have k6 := c_X4_writeName e6
  have m6 := (k6 default_g).1
  obtain ⟨x7, e7, hf⟩ := bnd hf
  obtain ⟨h8, e8, hf⟩ := bnd hf
  have k8 := c_X4_endStatement e8
  have m8 := (k8 default_g).1
  have J := q_X4_writeEntry_187 hf
  have mE := J.1
  refine ⟨by omega, fun X g K ok nmx lev hK en => ?_⟩
  refine tj_callV (rest := ([] : List TV).map (vl g)) (as := [.inr (.inr (s1))]) ok lev (by omega) fcX4.1 (by decide) rfl (of_if e1).1 (k2 g) (CaX.of en (by omega)) kn_X4_writeWord wm_934 wm_935 wm_936 (rs_ok (Nat.le_of_ble_eq_true rfl)) rfl rfl dX4_writeEntry_70 ?_
  refine tj_aload_n ok 0 dX4_writeEntry_73 rfl rfl ?_
  refine tj_bipush (v := 109) ok dX4_writeEntry_74 (by decide) ?_
  refine tj_aload_n ok 1 dX4_writeEntry_76 rfl rfl ?_
  refine tj_getR (k := 4) ok fcX0 (by decide) wm_941 rfl (Or.inr ⟨_, rfl⟩) dX4_writeEntry_77 e3 ?_
  refine tj_iload_n ok 2 dX4_writeEntry_80 rfl rfl ?_
  refine tj_iaload ok dX4_writeEntry_81 e4 ?_
  refine tj_callV (rest := ([] : List TV).map (vl g)) (as := [.inl ((109 : Int32)), .inl (x4)]) ok lev (by omega) fcX4.1 (by decide) rfl (of_if e5).1 (k6 g) (CaX.of en (by omega)) kn_X4_writeName wm_942 wm_943 wm_944 (rs_ok (Nat.le_of_ble_eq_true rfl)) rfl rfl dX4_writeEntry_82 ?_
  refine tj_aload_n ok 0 dX4_writeEntry_85 rfl rfl ?_
  refine tj_callV (rest := ([] : List TV).map (vl g)) (as := []) ok lev (by omega) fcX4.1 (by decide) rfl (of_if e7).1 (k8 g) (CaX.of en (by omega)) kn_X4_endStatement wm_928 wm_929 wm_930 (rs_ok (Nat.le_of_ble_eq_true rfl)) rfl rfl dX4_writeEntry_86 ?_
  refine tj_goto (tgt := 187) ok dX4_writeEntry_89 (by decide) ?_
  refine tj_sub (lv' := []) [] rfl ?_
  exact J.2 X g K ok nmx lev hK en
def b_X4_writeEntry_68 (a0 : Nat) (a1 : Nat) (a3 : Int32) (s0 : Nat) (h : AH) : Option (AH) :=
  b_X4_writeEntry_70 a0 a1 a3 s0 7 h
set_option maxHeartbeats 4000000 in
set_option maxRecDepth 100000 in
theorem q_X4_writeEntry_68 {a0 : Nat} {a1 : Nat} {a3 : Int32} {s0 : Nat} {h hE : AH} (hf : b_X4_writeEntry_68 a0 a1 a3 s0 h = some hE) : JD cX4_writeEntry 4 RX4 "writeEntry" none (9) 68 [(0, .inr (.inr (a0))), (1, .inr (.inr (a1))), (3, .inl (a3))] [.inr (.inr (s0))] h hE none := by
  unfold b_X4_writeEntry_68 at hf
  have J := q_X4_writeEntry_70 hf
  have mE := J.1
  refine ⟨by omega, fun X g K ok nmx lev hK en => ?_⟩
  refine tj_ldcS (r := 7) ok (i := 16) rfl ⟨by decide, by decide⟩ dX4_writeEntry_68 ?_
  exact J.2 X g K ok nmx lev hK en
def b_X4_writeEntry_63 (a0 : Nat) (a1 : Nat) (a3 : Int32) (s0 : Nat) (h : AH) : Option (AH) :=
  b_X4_writeEntry_70 a0 a1 a3 s0 6 h
set_option maxHeartbeats 4000000 in
set_option maxRecDepth 100000 in
theorem q_X4_writeEntry_63 {a0 : Nat} {a1 : Nat} {a3 : Int32} {s0 : Nat} {h hE : AH} (hf : b_X4_writeEntry_63 a0 a1 a3 s0 h = some hE) : JD cX4_writeEntry 4 RX4 "writeEntry" none (9) 63 [(0, .inr (.inr (a0))), (1, .inr (.inr (a1))), (3, .inl (a3))] [.inr (.inr (s0))] h hE none := by
  unfold b_X4_writeEntry_63 at hf
  have J := q_X4_writeEntry_70 hf
  have mE := J.1
  refine ⟨by omega, fun X g K ok nmx lev hK en => ?_⟩
  refine tj_ldcS (r := 6) ok (i := 15) rfl ⟨by decide, by decide⟩ dX4_writeEntry_63 ?_
  refine tj_goto (tgt := 70) ok dX4_writeEntry_65 (by decide) ?_
  exact J.2 X g K ok nmx lev hK en
def b_X4_writeEntry_52 (a0 : Nat) (a1 : Nat) (a3 : Int32) (h : AH) : Option (AH) :=
  (g_r h a1 0 0).bind fun x1 => (l_i h x1 a3).bind fun x2 => if x2 = (3 : Int32) then b_X4_writeEntry_63 a0 a1 a3 a0 h else b_X4_writeEntry_68 a0 a1 a3 a0 h
set_option maxHeartbeats 4000000 in
set_option maxRecDepth 100000 in
theorem q_X4_writeEntry_52 {a0 : Nat} {a1 : Nat} {a3 : Int32} {h hE : AH} (hf : b_X4_writeEntry_52 a0 a1 a3 h = some hE) : JD cX4_writeEntry 4 RX4 "writeEntry" none (9) 52 [(0, .inr (.inr (a0))), (1, .inr (.inr (a1))), (3, .inl (a3))] [] h hE none := by
  unfold b_X4_writeEntry_52 at hf
  obtain ⟨x1, e1, hf⟩ := bnd hf
  obtain ⟨x2, e2, hf⟩ := bnd hf
  have mE : hp_n h ≤ hp_n hE ∧ hp_s h ≤ hp_s hE := by
    by_cases hc : x2 = (3 : Int32)
    · rw [if_pos hc] at hf; exact (q_X4_writeEntry_63 hf).1
    · rw [if_neg hc] at hf; exact (q_X4_writeEntry_68 hf).1
  refine ⟨by omega, fun X g K ok nmx lev hK en => ?_⟩
  refine tj_aload_n ok 0 dX4_writeEntry_52 rfl rfl ?_
  refine tj_aload_n ok 1 dX4_writeEntry_53 rfl rfl ?_
  refine tj_getR (k := 0) ok fcX0 (by decide) wm_946 rfl (Or.inr ⟨_, rfl⟩) dX4_writeEntry_54 e1 ?_
  refine tj_iload_n ok 2 dX4_writeEntry_57 rfl rfl ?_
  refine tj_iaload ok dX4_writeEntry_58 e2 ?_
  refine tj_iconst (v := 3) ok dX4_writeEntry_59 (by decide) ?_
  refine tj_icmp_ne (tgt := 68) ok dX4_writeEntry_60 (by decide) (fun hc => ?_) (fun hc => ?_)
  · rw [if_neg hc] at hf
    exact (q_X4_writeEntry_68 hf).2 X g K ok nmx lev hK en
  · rw [if_pos hc] at hf
    exact (q_X4_writeEntry_63 hf).2 X g K ok nmx lev hK en
def b_X4_writeEntry_92 (a0 : Nat) (h : AH) : Option (AH) :=
  (ok_v h a0 4).bind fun x1 => (f_X4_writeWord a0 8 h).bind fun h2 => (ok_v h2 a0 4).bind fun x3 => (f_X4_endStatement a0 h2).bind fun h4 => b_X4_writeEntry_187 h4
set_option maxHeartbeats 4000000 in
set_option maxRecDepth 100000 in
theorem q_X4_writeEntry_92 {a0 : Nat} {h hE : AH} (hf : b_X4_writeEntry_92 a0 h = some hE) : JD cX4_writeEntry 4 RX4 "writeEntry" none (9) 92 [(0, .inr (.inr (a0)))] [] h hE none := by
  unfold b_X4_writeEntry_92 at hf
  obtain ⟨x1, e1, hf⟩ := bnd hf
  obtain ⟨h2, e2, hf⟩ := bnd hf
  have k2 := c_X4_writeWord e2
  have m2 := (k2 default_g).1
  obtain ⟨x3, e3, hf⟩ := bnd hf
  obtain ⟨h4, e4, hf⟩ := bnd hf
  have k4 := c_X4_endStatement e4
  have m4 := (k4 default_g).1
  have J := q_X4_writeEntry_187 hf
  have mE := J.1
  refine ⟨by omega, fun X g K ok nmx lev hK en => ?_⟩
  refine tj_aload_n ok 0 dX4_writeEntry_92 rfl rfl ?_
  refine tj_ldcS (r := 8) ok (i := 17) rfl ⟨by decide, by decide⟩ dX4_writeEntry_93 ?_
  refine tj_callV (rest := ([] : List TV).map (vl g)) (as := [.inr (.inr (8))]) ok lev (by omega) fcX4.1 (by decide) rfl (of_if e1).1 (k2 g) (CaX.of en (by omega)) kn_X4_writeWord wm_934 wm_935 wm_936 (rs_ok (Nat.le_of_ble_eq_true rfl)) rfl rfl dX4_writeEntry_95 ?_
  refine tj_aload_n ok 0 dX4_writeEntry_98 rfl rfl ?_
  refine tj_callV (rest := ([] : List TV).map (vl g)) (as := []) ok lev (by omega) fcX4.1 (by decide) rfl (of_if e3).1 (k4 g) (CaX.of en (by omega)) kn_X4_endStatement wm_928 wm_929 wm_930 (rs_ok (Nat.le_of_ble_eq_true rfl)) rfl rfl dX4_writeEntry_99 ?_
  refine tj_goto (tgt := 187) ok dX4_writeEntry_102 (by decide) ?_
  refine tj_sub (lv' := []) [] rfl ?_
  exact J.2 X g K ok nmx lev hK en
def b_X4_writeEntry_181 (a0 : Nat) (a1 : Nat) (a3 : Int32) (h : AH) : Option (AH) :=
  (ok_v h a0 4).bind fun x1 => (f_X4_writeAssignment a0 a1 a3 h).bind fun h2 => b_X4_writeEntry_187 h2
set_option maxHeartbeats 4000000 in
set_option maxRecDepth 100000 in
theorem q_X4_writeEntry_181 {a0 : Nat} {a1 : Nat} {a3 : Int32} {h hE : AH} (hf : b_X4_writeEntry_181 a0 a1 a3 h = some hE) : JD cX4_writeEntry 4 RX4 "writeEntry" none (9) 181 [(0, .inr (.inr (a0))), (1, .inr (.inr (a1))), (3, .inl (a3))] [] h hE none := by
  unfold b_X4_writeEntry_181 at hf
  obtain ⟨x1, e1, hf⟩ := bnd hf
  obtain ⟨h2, e2, hf⟩ := bnd hf
  have k2 := c_X4_writeAssignment e2
  have m2 := (k2 default_g).1
  have J := q_X4_writeEntry_187 hf
  have mE := J.1
  refine ⟨by omega, fun X g K ok nmx lev hK en => ?_⟩
  refine tj_aload_n ok 0 dX4_writeEntry_181 rfl rfl ?_
  refine tj_aload_n ok 1 dX4_writeEntry_182 rfl rfl ?_
  refine tj_iload_n ok 2 dX4_writeEntry_183 rfl rfl ?_
  refine tj_callV (rest := ([] : List TV).map (vl g)) (as := [.inr (.inr (a1)), .inl (a3)]) ok lev (by omega) fcX4.1 (by decide) rfl (of_if e1).1 (k2 g) (CaX.of en (by omega)) kn_X4_writeAssignment wm_948 wm_949 wm_950 (rs_ok (Nat.le_of_ble_eq_true rfl)) rfl rfl dX4_writeEntry_184 ?_
  refine tj_sub (lv' := []) [] rfl ?_
  exact J.2 X g K ok nmx lev hK en
def b_X4_writeEntry_105 (a0 : Nat) (a1 : Nat) (a3 : Int32) (h : AH) : Option (AH) :=
  (ok_v h a0 4).bind fun x1 => (f_X4_writeWord a0 12 h).bind fun h2 => (g_r h2 a1 0 1).bind fun x3 => (l_i h2 x3 a3).bind fun x4 => (ok_v h2 a0 4).bind fun x5 => (f_X4_writeName a0 (114 : Int32) x4 h2).bind fun h6 => (ok_v h6 a0 4).bind fun x7 => (f_X4_writeWord a0 13 h6).bind fun h8 => (g_r h8 a1 0 3).bind fun x9 => (l_i h8 x9 a3).bind fun x10 => (ok_v h8 a0 4).bind fun x11 => (f_X4_writeSign a0 ((48 : Int32) + x10) h8).bind fun h12 => (ok_v h12 a0 4).bind fun x13 => (f_X4_writeWord a0 11 h12).bind fun h14 => (ok_v h14 a0 4).bind fun x15 => (f_X4_endLine a0 h14).bind fun h16 => b_X4_writeEntry_187 h16
set_option maxHeartbeats 4000000 in
set_option maxRecDepth 100000 in
theorem q_X4_writeEntry_105 {a0 : Nat} {a1 : Nat} {a3 : Int32} {h hE : AH} (hf : b_X4_writeEntry_105 a0 a1 a3 h = some hE) : JD cX4_writeEntry 4 RX4 "writeEntry" none (9) 105 [(0, .inr (.inr (a0))), (1, .inr (.inr (a1))), (3, .inl (a3))] [] h hE none := by
  unfold b_X4_writeEntry_105 at hf
  obtain ⟨x1, e1, hf⟩ := bnd hf
  obtain ⟨h2, e2, hf⟩ := bnd hf
  have k2 := c_X4_writeWord e2
  have m2 := (k2 default_g).1
  obtain ⟨x3, e3, hf⟩ := bnd hf
  obtain ⟨x4, e4, hf⟩ := bnd hf
  obtain ⟨x5, e5, hf⟩ := bnd hf
  obtain ⟨h6, e6, hf⟩ := bnd hf
  have k6 := c_X4_writeName e6
  have m6 := (k6 default_g).1
  obtain ⟨x7, e7, hf⟩ := bnd hf
  obtain ⟨h8, e8, hf⟩ := bnd hf
  have k8 := c_X4_writeWord e8
  have m8 := (k8 default_g).1
  obtain ⟨x9, e9, hf⟩ := bnd hf
  obtain ⟨x10, e10, hf⟩ := bnd hf
  obtain ⟨x11, e11, hf⟩ := bnd hf
  obtain ⟨h12, e12, hf⟩ := bnd hf
  have k12 := c_X4_writeSign e12
  have m12 := (k12 default_g).1
  obtain ⟨x13, e13, hf⟩ := bnd hf
  obtain ⟨h14, e14, hf⟩ := bnd hf
  have k14 := c_X4_writeWord e14
  have m14 := (k14 default_g).1
  obtain ⟨x15, e15, hf⟩ := bnd hf
  obtain ⟨h16, e16, hf⟩ := bnd hf
  have k16 := c_X4_endLine e16
  have m16 := (k16 default_g).1
  have J := q_X4_writeEntry_187 hf
  have mE := J.1
  refine ⟨by omega, fun X g K ok nmx lev hK en => ?_⟩
  refine tj_aload_n ok 0 dX4_writeEntry_105 rfl rfl ?_
  refine tj_ldcS (r := 12) ok (i := 18) rfl ⟨by decide, by decide⟩ dX4_writeEntry_106 ?_
  refine tj_callV (rest := ([] : List TV).map (vl g)) (as := [.inr (.inr (12))]) ok lev (by omega) fcX4.1 (by decide) rfl (of_if e1).1 (k2 g) (CaX.of en (by omega)) kn_X4_writeWord wm_934 wm_935 wm_936 (rs_ok (Nat.le_of_ble_eq_true rfl)) rfl rfl dX4_writeEntry_108 ?_
  refine tj_aload_n ok 0 dX4_writeEntry_111 rfl rfl ?_
  refine tj_bipush (v := 114) ok dX4_writeEntry_112 (by decide) ?_
  refine tj_aload_n ok 1 dX4_writeEntry_114 rfl rfl ?_
  refine tj_getR (k := 1) ok fcX0 (by decide) wm_945 rfl (Or.inr ⟨_, rfl⟩) dX4_writeEntry_115 e3 ?_
  refine tj_iload_n ok 2 dX4_writeEntry_118 rfl rfl ?_
  refine tj_iaload ok dX4_writeEntry_119 e4 ?_
  refine tj_callV (rest := ([] : List TV).map (vl g)) (as := [.inl ((114 : Int32)), .inl (x4)]) ok lev (by omega) fcX4.1 (by decide) rfl (of_if e5).1 (k6 g) (CaX.of en (by omega)) kn_X4_writeName wm_942 wm_943 wm_944 (rs_ok (Nat.le_of_ble_eq_true rfl)) rfl rfl dX4_writeEntry_120 ?_
  refine tj_aload_n ok 0 dX4_writeEntry_123 rfl rfl ?_
  refine tj_ldcS (r := 13) ok (i := 19) rfl ⟨by decide, by decide⟩ dX4_writeEntry_124 ?_
  refine tj_callV (rest := ([] : List TV).map (vl g)) (as := [.inr (.inr (13))]) ok lev (by omega) fcX4.1 (by decide) rfl (of_if e7).1 (k8 g) (CaX.of en (by omega)) kn_X4_writeWord wm_934 wm_935 wm_936 (rs_ok (Nat.le_of_ble_eq_true rfl)) rfl rfl dX4_writeEntry_126 ?_
  refine tj_aload_n ok 0 dX4_writeEntry_129 rfl rfl ?_
  refine tj_bipush (v := 48) ok dX4_writeEntry_130 (by decide) ?_
  refine tj_aload_n ok 1 dX4_writeEntry_132 rfl rfl ?_
  refine tj_getR (k := 3) ok fcX0 (by decide) wm_939 rfl (Or.inr ⟨_, rfl⟩) dX4_writeEntry_133 e9 ?_
  refine tj_iload_n ok 2 dX4_writeEntry_136 rfl rfl ?_
  refine tj_iaload ok dX4_writeEntry_137 e10 ?_
  refine tj_iadd ok dX4_writeEntry_138 ?_
  refine tj_callV (rest := ([] : List TV).map (vl g)) (as := [.inl ((48 : Int32) + x10)]) ok lev (by omega) fcX4.1 (by decide) rfl (of_if e11).1 (k12 g) (CaX.of en (by omega)) kn_X4_writeSign wm_931 wm_932 wm_933 (rs_ok (Nat.le_of_ble_eq_true rfl)) rfl rfl dX4_writeEntry_139 ?_
  refine tj_aload_n ok 0 dX4_writeEntry_142 rfl rfl ?_
  refine tj_ldcS (r := 11) ok (i := 14) rfl ⟨by decide, by decide⟩ dX4_writeEntry_143 ?_
  refine tj_callV (rest := ([] : List TV).map (vl g)) (as := [.inr (.inr (11))]) ok lev (by omega) fcX4.1 (by decide) rfl (of_if e13).1 (k14 g) (CaX.of en (by omega)) kn_X4_writeWord wm_934 wm_935 wm_936 (rs_ok (Nat.le_of_ble_eq_true rfl)) rfl rfl dX4_writeEntry_145 ?_
  refine tj_aload_n ok 0 dX4_writeEntry_148 rfl rfl ?_
  refine tj_callV (rest := ([] : List TV).map (vl g)) (as := []) ok lev (by omega) fcX4.1 (by decide) rfl (of_if e15).1 (k16 g) (CaX.of en (by omega)) kn_X4_endLine wm_912 wm_913 wm_914 (rs_ok (Nat.le_of_ble_eq_true rfl)) rfl rfl dX4_writeEntry_149 ?_
  refine tj_goto (tgt := 187) ok dX4_writeEntry_152 (by decide) ?_
  refine tj_sub (lv' := []) [] rfl ?_
  exact J.2 X g K ok nmx lev hK en
def b_X4_writeEntry_155 (a0 : Nat) (h : AH) : Option (AH) :=
  (ok_v h a0 4).bind fun x1 => (f_X4_writeWord a0 14 h).bind fun h2 => (ok_v h2 a0 4).bind fun x3 => (f_X4_endLine a0 h2).bind fun h4 => b_X4_writeEntry_187 h4
set_option maxHeartbeats 4000000 in
set_option maxRecDepth 100000 in
theorem q_X4_writeEntry_155 {a0 : Nat} {h hE : AH} (hf : b_X4_writeEntry_155 a0 h = some hE) : JD cX4_writeEntry 4 RX4 "writeEntry" none (9) 155 [(0, .inr (.inr (a0)))] [] h hE none := by
  unfold b_X4_writeEntry_155 at hf
  obtain ⟨x1, e1, hf⟩ := bnd hf
  obtain ⟨h2, e2, hf⟩ := bnd hf
  have k2 := c_X4_writeWord e2
  have m2 := (k2 default_g).1
  obtain ⟨x3, e3, hf⟩ := bnd hf
  obtain ⟨h4, e4, hf⟩ := bnd hf
  have k4 := c_X4_endLine e4
  have m4 := (k4 default_g).1
  have J := q_X4_writeEntry_187 hf
  have mE := J.1
  refine ⟨by omega, fun X g K ok nmx lev hK en => ?_⟩
  refine tj_aload_n ok 0 dX4_writeEntry_155 rfl rfl ?_
  refine tj_ldcS (r := 14) ok (i := 20) rfl ⟨by decide, by decide⟩ dX4_writeEntry_156 ?_
  refine tj_callV (rest := ([] : List TV).map (vl g)) (as := [.inr (.inr (14))]) ok lev (by omega) fcX4.1 (by decide) rfl (of_if e1).1 (k2 g) (CaX.of en (by omega)) kn_X4_writeWord wm_934 wm_935 wm_936 (rs_ok (Nat.le_of_ble_eq_true rfl)) rfl rfl dX4_writeEntry_158 ?_
  refine tj_aload_n ok 0 dX4_writeEntry_161 rfl rfl ?_
  refine tj_callV (rest := ([] : List TV).map (vl g)) (as := []) ok lev (by omega) fcX4.1 (by decide) rfl (of_if e3).1 (k4 g) (CaX.of en (by omega)) kn_X4_endLine wm_912 wm_913 wm_914 (rs_ok (Nat.le_of_ble_eq_true rfl)) rfl rfl dX4_writeEntry_162 ?_
  refine tj_goto (tgt := 187) ok dX4_writeEntry_165 (by decide) ?_
  refine tj_sub (lv' := []) [] rfl ?_
  exact J.2 X g K ok nmx lev hK en
def b_X4_writeEntry_168 (a0 : Nat) (h : AH) : Option (AH) :=
  (ok_v h a0 4).bind fun x1 => (f_X4_writeWord a0 15 h).bind fun h2 => (ok_v h2 a0 4).bind fun x3 => (f_X4_endLine a0 h2).bind fun h4 => b_X4_writeEntry_187 h4
set_option maxHeartbeats 4000000 in
set_option maxRecDepth 100000 in
theorem q_X4_writeEntry_168 {a0 : Nat} {h hE : AH} (hf : b_X4_writeEntry_168 a0 h = some hE) : JD cX4_writeEntry 4 RX4 "writeEntry" none (9) 168 [(0, .inr (.inr (a0)))] [] h hE none := by
  unfold b_X4_writeEntry_168 at hf
  obtain ⟨x1, e1, hf⟩ := bnd hf
  obtain ⟨h2, e2, hf⟩ := bnd hf
  have k2 := c_X4_writeWord e2
  have m2 := (k2 default_g).1
  obtain ⟨x3, e3, hf⟩ := bnd hf
  obtain ⟨h4, e4, hf⟩ := bnd hf
  have k4 := c_X4_endLine e4
  have m4 := (k4 default_g).1
  have J := q_X4_writeEntry_187 hf
  have mE := J.1
  refine ⟨by omega, fun X g K ok nmx lev hK en => ?_⟩
  refine tj_aload_n ok 0 dX4_writeEntry_168 rfl rfl ?_
  refine tj_ldcS (r := 15) ok (i := 21) rfl ⟨by decide, by decide⟩ dX4_writeEntry_169 ?_
  refine tj_callV (rest := ([] : List TV).map (vl g)) (as := [.inr (.inr (15))]) ok lev (by omega) fcX4.1 (by decide) rfl (of_if e1).1 (k2 g) (CaX.of en (by omega)) kn_X4_writeWord wm_934 wm_935 wm_936 (rs_ok (Nat.le_of_ble_eq_true rfl)) rfl rfl dX4_writeEntry_171 ?_
  refine tj_aload_n ok 0 dX4_writeEntry_174 rfl rfl ?_
  refine tj_callV (rest := ([] : List TV).map (vl g)) (as := []) ok lev (by omega) fcX4.1 (by decide) rfl (of_if e3).1 (k4 g) (CaX.of en (by omega)) kn_X4_endLine wm_912 wm_913 wm_914 (rs_ok (Nat.le_of_ble_eq_true rfl)) rfl rfl dX4_writeEntry_175 ?_
  refine tj_goto (tgt := 187) ok dX4_writeEntry_178 (by decide) ?_
  refine tj_sub (lv' := []) [] rfl ?_
  exact J.2 X g K ok nmx lev hK en
def b_X4_writeEntry_0 (a0 : Nat) (a1 : Nat) (a2 : Int32) (h : AH) : Option (AH) :=
  (g_r h a1 0 0).bind fun x1 => (l_i h x1 (a2 &&& (63 : Int32))).bind fun x2 => if x2 = 3 then b_X4_writeEntry_52 a0 a1 (a2 &&& (63 : Int32)) h else if x2 = 4 then b_X4_writeEntry_52 a0 a1 (a2 &&& (63 : Int32)) h else if x2 = 5 then b_X4_writeEntry_92 a0 h else if x2 = 6 then b_X4_writeEntry_181 a0 a1 (a2 &&& (63 : Int32)) h else if x2 = 7 then b_X4_writeEntry_105 a0 a1 (a2 &&& (63 : Int32)) h else if x2 = 8 then b_X4_writeEntry_155 a0 h else if x2 = 9 then b_X4_writeEntry_168 a0 h else b_X4_writeEntry_181 a0 a1 (a2 &&& (63 : Int32)) h
set_option maxHeartbeats 4000000 in
set_option maxRecDepth 100000 in
theorem q_X4_writeEntry_0 {a0 : Nat} {a1 : Nat} {a2 : Int32} {h hE : AH} (hf : b_X4_writeEntry_0 a0 a1 a2 h = some hE) : JD cX4_writeEntry 4 RX4 "writeEntry" none (9) 0 [(0, .inr (.inr (a0))), (1, .inr (.inr (a1))), (2, .inl (a2))] [] h hE none := by
  unfold b_X4_writeEntry_0 at hf
  obtain ⟨x1, e1, hf⟩ := bnd hf
  obtain ⟨x2, e2, hf⟩ := bnd hf
  have mE : hp_n h ≤ hp_n hE ∧ hp_s h ≤ hp_s hE := by
    by_cases hc0 : x2 = 3
    · rw [if_pos hc0] at hf; exact (q_X4_writeEntry_52 hf).1
    rw [if_neg hc0] at hf
    by_cases hc1 : x2 = 4
    · rw [if_pos hc1] at hf; exact (q_X4_writeEntry_52 hf).1
    rw [if_neg hc1] at hf
    by_cases hc2 : x2 = 5
    · rw [if_pos hc2] at hf; exact (q_X4_writeEntry_92 hf).1
    rw [if_neg hc2] at hf
    by_cases hc3 : x2 = 6
    · rw [if_pos hc3] at hf; exact (q_X4_writeEntry_181 hf).1
    rw [if_neg hc3] at hf
    by_cases hc4 : x2 = 7
    · rw [if_pos hc4] at hf; exact (q_X4_writeEntry_105 hf).1
    rw [if_neg hc4] at hf
    by_cases hc5 : x2 = 8
    · rw [if_pos hc5] at hf; exact (q_X4_writeEntry_155 hf).1
    rw [if_neg hc5] at hf
    by_cases hc6 : x2 = 9
    · rw [if_pos hc6] at hf; exact (q_X4_writeEntry_168 hf).1
    rw [if_neg hc6] at hf
    exact (q_X4_writeEntry_181 hf).1
  refine ⟨by omega, fun X g K ok nmx lev hK en => ?_⟩
  refine tj_iload_n ok 2 dX4_writeEntry_0 rfl rfl ?_
  refine tj_bipush (v := 63) ok dX4_writeEntry_1 (by decide) ?_
  refine tj_iand ok dX4_writeEntry_3 ?_
  refine tj_istore_n (lv' := [(0, .inr (.inr (a0))), (1, .inr (.inr (a1))), (2, .inl (a2)), (3, .inl (a2 &&& (63 : Int32)))]) ok dX4_writeEntry_4 rfl (by decide) rfl ?_
  refine tj_aload_n ok 1 dX4_writeEntry_5 rfl rfl ?_
  refine tj_getR (k := 0) ok fcX0 (by decide) wm_946 rfl (Or.inr ⟨_, rfl⟩) dX4_writeEntry_6 e1 ?_
  refine tj_iload_n ok 3 dX4_writeEntry_9 rfl rfl ?_
  refine tj_iaload ok dX4_writeEntry_10 e2 ?_
  by_cases hc0 : x2 = 3
  · rw [if_pos hc0] at hf
    have hx : (x2).toInt = 3 := by rw [hc0]; decide
    refine tj_tabIn (off := 41) (tgt := 52) ok dX4_writeEntry_11 (by rw [hx]; decide) (by rw [hx]; decide) (by rw [hx]; decide) (by decide) ?_
    refine tj_sub (lv' := [(0, .inr (.inr (a0))), (1, .inr (.inr (a1))), (3, .inl (a2 &&& (63 : Int32)))]) [0, 1, 3] rfl ?_
    exact (q_X4_writeEntry_52 hf).2 X g K ok nmx lev hK en
  rw [if_neg hc0] at hf
  have hn0 := tn_i (n := 3) (by decide) hc0
  have hp0 := tn_j hn0
  by_cases hc1 : x2 = 4
  · rw [if_pos hc1] at hf
    have hx : (x2).toInt = 4 := by rw [hc1]; decide
    refine tj_tabIn (off := 41) (tgt := 52) ok dX4_writeEntry_11 (by rw [hx]; decide) (by rw [hx]; decide) (by rw [hx]; decide) (by decide) ?_
    refine tj_sub (lv' := [(0, .inr (.inr (a0))), (1, .inr (.inr (a1))), (3, .inl (a2 &&& (63 : Int32)))]) [0, 1, 3] rfl ?_
    exact (q_X4_writeEntry_52 hf).2 X g K ok nmx lev hK en
  rw [if_neg hc1] at hf
  have hn1 := tn_i (n := 4) (by decide) hc1
  have hp1 := tn_j hn1
  by_cases hc2 : x2 = 5
  · rw [if_pos hc2] at hf
    have hx : (x2).toInt = 5 := by rw [hc2]; decide
    refine tj_tabIn (off := 81) (tgt := 92) ok dX4_writeEntry_11 (by rw [hx]; decide) (by rw [hx]; decide) (by rw [hx]; decide) (by decide) ?_
    refine tj_sub (lv' := [(0, .inr (.inr (a0)))]) [0] rfl ?_
    exact (q_X4_writeEntry_92 hf).2 X g K ok nmx lev hK en
  rw [if_neg hc2] at hf
  have hn2 := tn_i (n := 5) (by decide) hc2
  have hp2 := tn_j hn2
  by_cases hc3 : x2 = 6
  · rw [if_pos hc3] at hf
    have hx : (x2).toInt = 6 := by rw [hc3]; decide
    refine tj_tabIn (off := 170) (tgt := 181) ok dX4_writeEntry_11 (by rw [hx]; decide) (by rw [hx]; decide) (by rw [hx]; decide) (by decide) ?_
    refine tj_sub (lv' := [(0, .inr (.inr (a0))), (1, .inr (.inr (a1))), (3, .inl (a2 &&& (63 : Int32)))]) [0, 1, 3] rfl ?_
    exact (q_X4_writeEntry_181 hf).2 X g K ok nmx lev hK en
  rw [if_neg hc3] at hf
  have hn3 := tn_i (n := 6) (by decide) hc3
  have hp3 := tn_j hn3
  by_cases hc4 : x2 = 7
  · rw [if_pos hc4] at hf
    have hx : (x2).toInt = 7 := by rw [hc4]; decide
    refine tj_tabIn (off := 94) (tgt := 105) ok dX4_writeEntry_11 (by rw [hx]; decide) (by rw [hx]; decide) (by rw [hx]; decide) (by decide) ?_
    refine tj_sub (lv' := [(0, .inr (.inr (a0))), (1, .inr (.inr (a1))), (3, .inl (a2 &&& (63 : Int32)))]) [0, 1, 3] rfl ?_
    exact (q_X4_writeEntry_105 hf).2 X g K ok nmx lev hK en
  rw [if_neg hc4] at hf
  have hn4 := tn_i (n := 7) (by decide) hc4
  have hp4 := tn_j hn4
  by_cases hc5 : x2 = 8
  · rw [if_pos hc5] at hf
    have hx : (x2).toInt = 8 := by rw [hc5]; decide
    refine tj_tabIn (off := 144) (tgt := 155) ok dX4_writeEntry_11 (by rw [hx]; decide) (by rw [hx]; decide) (by rw [hx]; decide) (by decide) ?_
    refine tj_sub (lv' := [(0, .inr (.inr (a0)))]) [0] rfl ?_
    exact (q_X4_writeEntry_155 hf).2 X g K ok nmx lev hK en
  rw [if_neg hc5] at hf
  have hn5 := tn_i (n := 8) (by decide) hc5
  have hp5 := tn_j hn5
  by_cases hc6 : x2 = 9
  · rw [if_pos hc6] at hf
    have hx : (x2).toInt = 9 := by rw [hc6]; decide
    refine tj_tabIn (off := 157) (tgt := 168) ok dX4_writeEntry_11 (by rw [hx]; decide) (by rw [hx]; decide) (by rw [hx]; decide) (by decide) ?_
    refine tj_sub (lv' := [(0, .inr (.inr (a0)))]) [0] rfl ?_
    exact (q_X4_writeEntry_168 hf).2 X g K ok nmx lev hK en
  rw [if_neg hc6] at hf
  have hn6 := tn_i (n := 9) (by decide) hc6
  have hp6 := tn_j hn6
  refine tj_tabOut (tgt := 181) ok dX4_writeEntry_11 (by omega) (by decide) ?_
  refine tj_sub (lv' := [(0, .inr (.inr (a0))), (1, .inr (.inr (a1))), (3, .inl (a2 &&& (63 : Int32)))]) [0, 1, 3] rfl ?_
  exact (q_X4_writeEntry_181 hf).2 X g K ok nmx lev hK en
def f_X4_writeEntry (a0 : Nat) (a1 : Nat) (a2 : Int32) (h : AH) : Option (AH) := b_X4_writeEntry_0  a0 a1 a2 h
theorem c_X4_writeEntry {a0 : Nat} {a1 : Nat} {a2 : Int32} {h hE : AH} (hf : f_X4_writeEntry a0 a1 a2 h = some hE) : ∀ g : GT, CM g (9) yX4_writeEntry cX4_writeEntry 4 none h [.inr (.inr (a0)), .inr (.inr (a1)), .inl (a2)] hE none :=
  CM.ofJ (by decide) (by show _ ≤ 4; exact Nat.le_of_ble_eq_true rfl) (q_X4_writeEntry_0 hf)
/-! ===== LitmusHouse$Printer.writeThread(LLitmusHouse$Code;I)V ===== -/
def b_X4_writeThread_62 (a0 : Nat) (h : AH) : Option (AH) :=
  (ok_v h a0 4).bind fun x1 => (f_X4_writeWord a0 15 h).bind fun h2 => (ok_v h2 a0 4).bind fun x3 => (f_X4_endLine a0 h2).bind fun h4 => some h4
set_option maxHeartbeats 4000000 in
set_option maxRecDepth 100000 in
theorem q_X4_writeThread_62 {a0 : Nat} {h hE : AH} (hf : b_X4_writeThread_62 a0 h = some hE) : JD cX4_writeThread 4 RX4 "writeThread" none (10) 62 [(0, .inr (.inr (a0)))] [] h hE none := by
  unfold b_X4_writeThread_62 at hf
  obtain ⟨x1, e1, hf⟩ := bnd hf
  obtain ⟨h2, e2, hf⟩ := bnd hf
  have k2 := c_X4_writeWord e2
  have m2 := (k2 default_g).1
  obtain ⟨x3, e3, hf⟩ := bnd hf
  obtain ⟨h4, e4, hf⟩ := bnd hf
  have k4 := c_X4_endLine e4
  have m4 := (k4 default_g).1
  have hh := Option.some.inj hf
  subst hh
  have mE : hp_n h4 ≤ hp_n h4 ∧ hp_s h4 ≤ hp_s h4 := ⟨Nat.le_refl _, Nat.le_refl _⟩
  refine ⟨by omega, fun X g K ok nmx lev hK en => ?_⟩
  refine tj_aload_n ok 0 dX4_writeThread_62 rfl rfl ?_
  refine tj_ldcS (r := 15) ok (i := 21) rfl ⟨by decide, by decide⟩ dX4_writeThread_63 ?_
  refine tj_callV (rest := ([] : List TV).map (vl g)) (as := [.inr (.inr (15))]) ok lev (by omega) fcX4.1 (by decide) rfl (of_if e1).1 (k2 g) (CaX.of en (by omega)) kn_X4_writeWord wm_934 wm_935 wm_936 (rs_ok (Nat.le_of_ble_eq_true rfl)) rfl rfl dX4_writeThread_65 ?_
  refine tj_aload_n ok 0 dX4_writeThread_68 rfl rfl ?_
  refine tj_callV (rest := ([] : List TV).map (vl g)) (as := []) ok lev (by omega) fcX4.1 (by decide) rfl (of_if e3).1 (k4 g) (CaX.of en (by omega)) kn_X4_endLine wm_912 wm_913 wm_914 (rs_ok (Nat.le_of_ble_eq_true rfl)) rfl rfl dX4_writeThread_69 ?_
  exact tj_return ok en dX4_writeThread_72
def b_X4_writeThread_50 (r22 : Nat → Nat → Int32 → AH → Option (AH)) (a0 : Nat) (a1 : Nat) (a3 : Int32) (h : AH) : Option (AH) :=
  (ok_v h a0 4).bind fun x1 => (f_X4_writeEntry a0 a1 a3 h).bind fun h2 => r22 a0 a1 (a3 + (1 : Int32)) h2
set_option maxHeartbeats 4000000 in
set_option maxRecDepth 100000 in
theorem q_X4_writeThread_50 {hE : AH} {r22 : Nat → Nat → Int32 → AH → Option (AH)} (hr22 : ∀ (b0 : Nat) (b1 : Nat) (b3 : Int32) (h : AH), r22 b0 b1 b3 h = some hE → JD cX4_writeThread 4 RX4 "writeThread" none (10) 22 [(0, .inr (.inr (b0))), (1, .inr (.inr (b1))), (3, .inl (b3))] [] h hE none) {a0 : Nat} {a1 : Nat} {a3 : Int32} {h : AH} (hf : b_X4_writeThread_50 r22 a0 a1 a3 h = some hE) : JD cX4_writeThread 4 RX4 "writeThread" none (10) 50 [(0, .inr (.inr (a0))), (1, .inr (.inr (a1))), (3, .inl (a3))] [] h hE none := by
  unfold b_X4_writeThread_50 at hf
  obtain ⟨x1, e1, hf⟩ := bnd hf
  obtain ⟨h2, e2, hf⟩ := bnd hf
  have k2 := c_X4_writeEntry e2
  have m2 := (k2 default_g).1
  have J := hr22 _ _ _ _ hf
  have mE := J.1
  refine ⟨by omega, fun X g K ok nmx lev hK en => ?_⟩
  refine tj_aload_n ok 0 dX4_writeThread_50 rfl rfl ?_
  refine tj_aload_n ok 1 dX4_writeThread_51 rfl rfl ?_
  refine tj_iload_n ok 2 dX4_writeThread_52 rfl rfl ?_
  refine tj_callV (rest := ([] : List TV).map (vl g)) (as := [.inr (.inr (a1)), .inl (a3)]) ok lev (by omega) fcX4.1 (by decide) rfl (of_if e1).1 (k2 g) (CaX.of en (by omega)) kn_X4_writeEntry wm_952 wm_953 wm_954 (rs_ok (Nat.le_of_ble_eq_true rfl)) rfl rfl dX4_writeThread_53 ?_
  refine tj_iinc (lv' := [(0, .inr (.inr (a0))), (1, .inr (.inr (a1))), (3, .inl (a3 + (1 : Int32)))]) ok 2 dX4_writeThread_56 rfl (rfl) (by decide) rfl ?_
  refine tj_goto (tgt := 22) ok dX4_writeThread_59 (by decide) ?_
  exact J.2 X g K ok nmx lev hK en
def b_X4_writeThread_47 (a0 : Nat) (h : AH) : Option (AH) :=
  b_X4_writeThread_62 a0 h
set_option maxHeartbeats 4000000 in
set_option maxRecDepth 100000 in
theorem q_X4_writeThread_47 {a0 : Nat} {h hE : AH} (hf : b_X4_writeThread_47 a0 h = some hE) : JD cX4_writeThread 4 RX4 "writeThread" none (10) 47 [(0, .inr (.inr (a0)))] [] h hE none := by
  unfold b_X4_writeThread_47 at hf
  have J := q_X4_writeThread_62 hf
  have mE := J.1
  refine ⟨by omega, fun X g K ok nmx lev hK en => ?_⟩
  refine tj_goto (tgt := 62) ok dX4_writeThread_47 (by decide) ?_
  exact J.2 X g K ok nmx lev hK en
def b_X4_writeThread_36 (r22 : Nat → Nat → Int32 → AH → Option (AH)) (a0 : Nat) (a1 : Nat) (a3 : Int32) (h : AH) : Option (AH) :=
  (g_r h a1 0 0).bind fun x1 => (l_i h x1 a3).bind fun x2 => if x2 = (10 : Int32) then b_X4_writeThread_47 a0 h else b_X4_writeThread_50 r22 a0 a1 a3 h
set_option maxHeartbeats 4000000 in
set_option maxRecDepth 100000 in
theorem q_X4_writeThread_36 {hE : AH} {r22 : Nat → Nat → Int32 → AH → Option (AH)} (hr22 : ∀ (b0 : Nat) (b1 : Nat) (b3 : Int32) (h : AH), r22 b0 b1 b3 h = some hE → JD cX4_writeThread 4 RX4 "writeThread" none (10) 22 [(0, .inr (.inr (b0))), (1, .inr (.inr (b1))), (3, .inl (b3))] [] h hE none) {a0 : Nat} {a1 : Nat} {a3 : Int32} {h : AH} (hf : b_X4_writeThread_36 r22 a0 a1 a3 h = some hE) : JD cX4_writeThread 4 RX4 "writeThread" none (10) 36 [(0, .inr (.inr (a0))), (1, .inr (.inr (a1))), (3, .inl (a3))] [] h hE none := by
  unfold b_X4_writeThread_36 at hf
  obtain ⟨x1, e1, hf⟩ := bnd hf
  obtain ⟨x2, e2, hf⟩ := bnd hf
  have mE : hp_n h ≤ hp_n hE ∧ hp_s h ≤ hp_s hE := by
    by_cases hc : x2 = (10 : Int32)
    · rw [if_pos hc] at hf; exact (q_X4_writeThread_47 hf).1
    · rw [if_neg hc] at hf; exact (q_X4_writeThread_50 hr22 hf).1
  refine ⟨by omega, fun X g K ok nmx lev hK en => ?_⟩
  refine tj_aload_n ok 1 dX4_writeThread_36 rfl rfl ?_
  refine tj_getR (k := 0) ok fcX0 (by decide) wm_946 rfl (Or.inr ⟨_, rfl⟩) dX4_writeThread_37 e1 ?_
  refine tj_iload_n ok 2 dX4_writeThread_40 rfl rfl ?_
  refine tj_iaload ok dX4_writeThread_41 e2 ?_
  refine tj_bipush (v := 10) ok dX4_writeThread_42 (by decide) ?_
  refine tj_icmp_ne (tgt := 50) ok dX4_writeThread_44 (by decide) (fun hc => ?_) (fun hc => ?_)
  · rw [if_neg hc] at hf
    exact (q_X4_writeThread_50 hr22 hf).2 X g K ok nmx lev hK en
  · rw [if_pos hc] at hf
    refine tj_sub (lv' := [(0, .inr (.inr (a0)))]) [0] rfl ?_
    exact (q_X4_writeThread_47 hf).2 X g K ok nmx lev hK en
def b_X4_writeThread_30 (r22 : Nat → Nat → Int32 → AH → Option (AH)) (a0 : Nat) (a1 : Nat) (a3 : Int32) (h : AH) : Option (AH) :=
  if (64 : Int32) ≤ a3 then b_X4_writeThread_62 a0 h else b_X4_writeThread_36 r22 a0 a1 a3 h
set_option maxHeartbeats 4000000 in
set_option maxRecDepth 100000 in
theorem q_X4_writeThread_30 {hE : AH} {r22 : Nat → Nat → Int32 → AH → Option (AH)} (hr22 : ∀ (b0 : Nat) (b1 : Nat) (b3 : Int32) (h : AH), r22 b0 b1 b3 h = some hE → JD cX4_writeThread 4 RX4 "writeThread" none (10) 22 [(0, .inr (.inr (b0))), (1, .inr (.inr (b1))), (3, .inl (b3))] [] h hE none) {a0 : Nat} {a1 : Nat} {a3 : Int32} {h : AH} (hf : b_X4_writeThread_30 r22 a0 a1 a3 h = some hE) : JD cX4_writeThread 4 RX4 "writeThread" none (10) 30 [(0, .inr (.inr (a0))), (1, .inr (.inr (a1))), (3, .inl (a3))] [] h hE none := by
  unfold b_X4_writeThread_30 at hf
  have mE : hp_n h ≤ hp_n hE ∧ hp_s h ≤ hp_s hE := by
    by_cases hc : (64 : Int32) ≤ a3
    · rw [if_pos hc] at hf; exact (q_X4_writeThread_62 hf).1
    · rw [if_neg hc] at hf; exact (q_X4_writeThread_36 hr22 hf).1
  refine ⟨by omega, fun X g K ok nmx lev hK en => ?_⟩
  refine tj_iload_n ok 2 dX4_writeThread_30 rfl rfl ?_
  refine tj_bipush (v := 64) ok dX4_writeThread_31 (by decide) ?_
  refine tj_icmp_ge (tgt := 62) ok dX4_writeThread_33 (by decide) (fun hc => ?_) (fun hc => ?_)
  · rw [if_pos hc] at hf
    refine tj_sub (lv' := [(0, .inr (.inr (a0)))]) [0] rfl ?_
    exact (q_X4_writeThread_62 hf).2 X g K ok nmx lev hK en
  · rw [if_neg hc] at hf
    exact (q_X4_writeThread_36 hr22 hf).2 X g K ok nmx lev hK en
def b_X4_writeThread_22 (r22 : Nat → Nat → Int32 → AH → Option (AH)) (a0 : Nat) (a1 : Nat) (a3 : Int32) (h : AH) : Option (AH) :=
  (g_i h a1 0 10).bind fun x1 => if x1 ≤ a3 then b_X4_writeThread_62 a0 h else b_X4_writeThread_30 r22 a0 a1 a3 h
set_option maxHeartbeats 4000000 in
set_option maxRecDepth 100000 in
theorem q_X4_writeThread_22 {hE : AH} {r22 : Nat → Nat → Int32 → AH → Option (AH)} (hr22 : ∀ (b0 : Nat) (b1 : Nat) (b3 : Int32) (h : AH), r22 b0 b1 b3 h = some hE → JD cX4_writeThread 4 RX4 "writeThread" none (10) 22 [(0, .inr (.inr (b0))), (1, .inr (.inr (b1))), (3, .inl (b3))] [] h hE none) {a0 : Nat} {a1 : Nat} {a3 : Int32} {h : AH} (hf : b_X4_writeThread_22 r22 a0 a1 a3 h = some hE) : JD cX4_writeThread 4 RX4 "writeThread" none (10) 22 [(0, .inr (.inr (a0))), (1, .inr (.inr (a1))), (3, .inl (a3))] [] h hE none := by
  unfold b_X4_writeThread_22 at hf
  obtain ⟨x1, e1, hf⟩ := bnd hf
  have mE : hp_n h ≤ hp_n hE ∧ hp_s h ≤ hp_s hE := by
    by_cases hc : x1 ≤ a3
    · rw [if_pos hc] at hf; exact (q_X4_writeThread_62 hf).1
    · rw [if_neg hc] at hf; exact (q_X4_writeThread_30 hr22 hf).1
  refine ⟨by omega, fun X g K ok nmx lev hK en => ?_⟩
  refine tj_iload_n ok 2 dX4_writeThread_22 rfl rfl ?_
  refine tj_aload_n ok 1 dX4_writeThread_23 rfl rfl ?_
  refine tj_getI (k := 10) ok fcX0 (by decide) wm_955 rfl (Or.inl rfl) dX4_writeThread_24 e1 ?_
  refine tj_icmp_ge (tgt := 62) ok dX4_writeThread_27 (by decide) (fun hc => ?_) (fun hc => ?_)
  · rw [if_pos hc] at hf
    refine tj_sub (lv' := [(0, .inr (.inr (a0)))]) [0] rfl ?_
    exact (q_X4_writeThread_62 hf).2 X g K ok nmx lev hK en
  · rw [if_neg hc] at hf
    exact (q_X4_writeThread_30 hr22 hf).2 X g K ok nmx lev hK en
def l_X4_writeThread_22 : Nat → Nat → Nat → Int32 → AH → Option (AH)
  | 0 => fun _ _ _ _ => none
  | n + 1 => fun a0 a1 a3 h => b_X4_writeThread_22 (l_X4_writeThread_22 n) a0 a1 a3 h
theorem ql_X4_writeThread_22 {n : Nat} {a0 : Nat} {a1 : Nat} {a3 : Int32} {h hE : AH} (hf : l_X4_writeThread_22 n a0 a1 a3 h = some hE) : JD cX4_writeThread 4 RX4 "writeThread" none (10) 22 [(0, .inr (.inr (a0))), (1, .inr (.inr (a1))), (3, .inl (a3))] [] h hE none := by
  induction n generalizing a0 a1 a3 h with
  | zero => cases hf
  | succ n ih => exact q_X4_writeThread_22 (fun _ _ _ _ hf => ih hf) hf
def b_X4_writeThread_0 (a0 : Nat) (a1 : Nat) (a2 : Int32) (h : AH) : Option (AH) :=
  (ok_v h a0 4).bind fun x1 => (f_X4_writeWord a0 5 h).bind fun h2 => (ok_v h2 a0 4).bind fun x3 => (f_X4_writeWord a0 11 h2).bind fun h4 => (ok_v h4 a0 4).bind fun x5 => (f_X4_endLine a0 h4).bind fun h6 => l_X4_writeThread_22 fu_ a0 a1 (mx_i a2 (0 : Int32)) h6
set_option maxHeartbeats 4000000 in
set_option maxRecDepth 100000 in
theorem q_X4_writeThread_0 {a0 : Nat} {a1 : Nat} {a2 : Int32} {h hE : AH} (hf : b_X4_writeThread_0 a0 a1 a2 h = some hE) : JD cX4_writeThread 4 RX4 "writeThread" none (10) 0 [(0, .inr (.inr (a0))), (1, .inr (.inr (a1))), (2, .inl (a2))] [] h hE none := by
  unfold b_X4_writeThread_0 at hf
  obtain ⟨x1, e1, hf⟩ := bnd hf
  obtain ⟨h2, e2, hf⟩ := bnd hf
  have k2 := c_X4_writeWord e2
  have m2 := (k2 default_g).1
  obtain ⟨x3, e3, hf⟩ := bnd hf
  obtain ⟨h4, e4, hf⟩ := bnd hf
  have k4 := c_X4_writeWord e4
  have m4 := (k4 default_g).1
  obtain ⟨x5, e5, hf⟩ := bnd hf
  obtain ⟨h6, e6, hf⟩ := bnd hf
  have k6 := c_X4_endLine e6
  have m6 := (k6 default_g).1
  have J := ql_X4_writeThread_22 hf
  have mE := J.1
  refine ⟨by omega, fun X g K ok nmx lev hK en => ?_⟩
  refine tj_aload_n ok 0 dX4_writeThread_0 rfl rfl ?_
  refine tj_ldcS (r := 5) ok (i := 13) rfl ⟨by decide, by decide⟩ dX4_writeThread_1 ?_
  refine tj_callV (rest := ([] : List TV).map (vl g)) (as := [.inr (.inr (5))]) ok lev (by omega) fcX4.1 (by decide) rfl (of_if e1).1 (k2 g) (CaX.of en (by omega)) kn_X4_writeWord wm_934 wm_935 wm_936 (rs_ok (Nat.le_of_ble_eq_true rfl)) rfl rfl dX4_writeThread_3 ?_
  refine tj_aload_n ok 0 dX4_writeThread_6 rfl rfl ?_
  refine tj_ldcS (r := 11) ok (i := 14) rfl ⟨by decide, by decide⟩ dX4_writeThread_7 ?_
  refine tj_callV (rest := ([] : List TV).map (vl g)) (as := [.inr (.inr (11))]) ok lev (by omega) fcX4.1 (by decide) rfl (of_if e3).1 (k4 g) (CaX.of en (by omega)) kn_X4_writeWord wm_934 wm_935 wm_936 (rs_ok (Nat.le_of_ble_eq_true rfl)) rfl rfl dX4_writeThread_9 ?_
  refine tj_aload_n ok 0 dX4_writeThread_12 rfl rfl ?_
  refine tj_callV (rest := ([] : List TV).map (vl g)) (as := []) ok lev (by omega) fcX4.1 (by decide) rfl (of_if e5).1 (k6 g) (CaX.of en (by omega)) kn_X4_endLine wm_912 wm_913 wm_914 (rs_ok (Nat.le_of_ble_eq_true rfl)) rfl rfl dX4_writeThread_13 ?_
  refine tj_iload_n ok 2 dX4_writeThread_16 rfl rfl ?_
  refine tj_iconst (v := 0) ok dX4_writeThread_17 (by decide) ?_
  refine tj_max (rest := ([] : List TV).map (vl g)) ok lev (by omega) (CaX.of en (by omega)) wm_956 wm_957 wm_42 wm_958 (rs_ok (Nat.le_of_ble_eq_true rfl)) dX4_writeThread_18 ?_
  refine tj_istore_n (lv' := [(0, .inr (.inr (a0))), (1, .inr (.inr (a1))), (2, .inl (a2)), (3, .inl (mx_i a2 (0 : Int32)))]) ok dX4_writeThread_21 rfl (by decide) rfl ?_
  refine tj_sub (lv' := [(0, .inr (.inr (a0))), (1, .inr (.inr (a1))), (3, .inl (mx_i a2 (0 : Int32)))]) [0, 1, 3] rfl ?_
  exact J.2 X g K ok nmx lev hK en
def f_X4_writeThread (a0 : Nat) (a1 : Nat) (a2 : Int32) (h : AH) : Option (AH) := b_X4_writeThread_0  a0 a1 a2 h
theorem c_X4_writeThread {a0 : Nat} {a1 : Nat} {a2 : Int32} {h hE : AH} (hf : f_X4_writeThread a0 a1 a2 h = some hE) : ∀ g : GT, CM g (10) yX4_writeThread cX4_writeThread 4 none h [.inr (.inr (a0)), .inr (.inr (a1)), .inl (a2)] hE none :=
  CM.ofJ (by decide) (by show _ ≤ 4; exact Nat.le_of_ble_eq_true rfl) (q_X4_writeThread_0 hf)
/-! ===== LitmusHouse$Printer.write(LLitmusHouse$Program;)I ===== -/
def b_X4_write_80 (a0 : Nat) (h : AH) : Option (Int32 × AH) :=
  (g_i h a0 4 0).bind fun x1 => some (x1, h)
set_option maxHeartbeats 4000000 in
set_option maxRecDepth 100000 in
theorem q_X4_write_80 {a0 : Nat} {h hE : AH} {v : Int32} (hf : b_X4_write_80 a0 h = some (v, hE)) : JD cX4_write 4 RX4 "write" (some .int) (11) 80 [(0, .inr (.inr (a0)))] [] h hE (some (.inl (v))) := by
  unfold b_X4_write_80 at hf
  obtain ⟨x1, e1, hf⟩ := bnd hf
  obtain ⟨hv, hh⟩ := Prod.mk.inj (Option.some.inj hf)
  subst hv
  subst hh
  have mE : hp_n h ≤ hp_n h ∧ hp_s h ≤ hp_s h := ⟨Nat.le_refl _, Nat.le_refl _⟩
  refine ⟨by omega, fun X g K ok nmx lev hK en => ?_⟩
  refine tj_aload_n ok 0 dX4_write_80 rfl rfl ?_
  refine tj_getI (k := 0) ok fcX4 (by decide) wm_109 rfl (Or.inl rfl) dX4_write_81 e1 ?_
  exact tj_ireturn ok en dX4_write_84
def b_X4_write_63 (r50 : Nat → Nat → Int32 → AH → Option (Int32 × AH)) (a0 : Nat) (a2 : Nat) (a3 : Int32) (h : AH) : Option (Int32 × AH) :=
  (g_r h a2 0 7).bind fun x1 => (l_i h x1 a3).bind fun x2 => (ok_v h a0 4).bind fun x3 => (f_X4_writeThread a0 a2 x2 h).bind fun h4 => r50 a0 a2 (a3 + (1 : Int32)) h4
set_option maxHeartbeats 4000000 in
set_option maxRecDepth 100000 in
theorem q_X4_write_63 {hE : AH} {v : Int32} {r50 : Nat → Nat → Int32 → AH → Option (Int32 × AH)} (hr50 : ∀ (b0 : Nat) (b2 : Nat) (b3 : Int32) (h : AH), r50 b0 b2 b3 h = some (v, hE) → JD cX4_write 4 RX4 "write" (some .int) (11) 50 [(0, .inr (.inr (b0))), (2, .inr (.inr (b2))), (3, .inl (b3))] [] h hE (some (.inl (v)))) {a0 : Nat} {a2 : Nat} {a3 : Int32} {h : AH} (hf : b_X4_write_63 r50 a0 a2 a3 h = some (v, hE)) : JD cX4_write 4 RX4 "write" (some .int) (11) 63 [(0, .inr (.inr (a0))), (2, .inr (.inr (a2))), (3, .inl (a3))] [] h hE (some (.inl (v))) := by
  unfold b_X4_write_63 at hf
  obtain ⟨x1, e1, hf⟩ := bnd hf
  obtain ⟨x2, e2, hf⟩ := bnd hf
  obtain ⟨x3, e3, hf⟩ := bnd hf
  obtain ⟨h4, e4, hf⟩ := bnd hf
  have k4 := c_X4_writeThread e4
  have m4 := (k4 default_g).1
  have J := hr50 _ _ _ _ hf
  have mE := J.1
  refine ⟨by omega, fun X g K ok nmx lev hK en => ?_⟩
  refine tj_aload_n ok 0 dX4_write_63 rfl rfl ?_
  refine tj_aload_n ok 1 dX4_write_64 rfl rfl ?_
  refine tj_aload_n ok 1 dX4_write_65 rfl rfl ?_
  refine tj_getR (k := 7) ok fcX0 (by decide) wm_960 rfl (Or.inr ⟨_, rfl⟩) dX4_write_66 e1 ?_
  refine tj_iload_n ok 2 dX4_write_69 rfl rfl ?_
  refine tj_iaload ok dX4_write_70 e2 ?_
  refine tj_callV (rest := ([] : List TV).map (vl g)) (as := [.inr (.inr (a2)), .inl (x2)]) ok lev (by omega) fcX4.1 (by decide) rfl (of_if e3).1 (k4 g) (CaX.of en (by omega)) kn_X4_writeThread wm_961 wm_962 wm_963 (rs_ok (Nat.le_of_ble_eq_true rfl)) rfl rfl dX4_write_71 ?_
  refine tj_iinc (lv' := [(0, .inr (.inr (a0))), (2, .inr (.inr (a2))), (3, .inl (a3 + (1 : Int32)))]) ok 2 dX4_write_74 rfl (rfl) (by decide) rfl ?_
  refine tj_goto (tgt := 50) ok dX4_write_77 (by decide) ?_
  exact J.2 X g K ok nmx lev hK en
def b_X4_write_58 (r50 : Nat → Nat → Int32 → AH → Option (Int32 × AH)) (a0 : Nat) (a2 : Nat) (a3 : Int32) (h : AH) : Option (Int32 × AH) :=
  if (4 : Int32) ≤ a3 then b_X4_write_80 a0 h else b_X4_write_63 r50 a0 a2 a3 h
set_option maxHeartbeats 4000000 in
set_option maxRecDepth 100000 in
theorem q_X4_write_58 {hE : AH} {v : Int32} {r50 : Nat → Nat → Int32 → AH → Option (Int32 × AH)} (hr50 : ∀ (b0 : Nat) (b2 : Nat) (b3 : Int32) (h : AH), r50 b0 b2 b3 h = some (v, hE) → JD cX4_write 4 RX4 "write" (some .int) (11) 50 [(0, .inr (.inr (b0))), (2, .inr (.inr (b2))), (3, .inl (b3))] [] h hE (some (.inl (v)))) {a0 : Nat} {a2 : Nat} {a3 : Int32} {h : AH} (hf : b_X4_write_58 r50 a0 a2 a3 h = some (v, hE)) : JD cX4_write 4 RX4 "write" (some .int) (11) 58 [(0, .inr (.inr (a0))), (2, .inr (.inr (a2))), (3, .inl (a3))] [] h hE (some (.inl (v))) := by
  unfold b_X4_write_58 at hf
  have mE : hp_n h ≤ hp_n hE ∧ hp_s h ≤ hp_s hE := by
    by_cases hc : (4 : Int32) ≤ a3
    · rw [if_pos hc] at hf; exact (q_X4_write_80 hf).1
    · rw [if_neg hc] at hf; exact (q_X4_write_63 hr50 hf).1
  refine ⟨by omega, fun X g K ok nmx lev hK en => ?_⟩
  refine tj_iload_n ok 2 dX4_write_58 rfl rfl ?_
  refine tj_iconst (v := 4) ok dX4_write_59 (by decide) ?_
  refine tj_icmp_ge (tgt := 80) ok dX4_write_60 (by decide) (fun hc => ?_) (fun hc => ?_)
  · rw [if_pos hc] at hf
    refine tj_sub (lv' := [(0, .inr (.inr (a0)))]) [0] rfl ?_
    exact (q_X4_write_80 hf).2 X g K ok nmx lev hK en
  · rw [if_neg hc] at hf
    exact (q_X4_write_63 hr50 hf).2 X g K ok nmx lev hK en
def b_X4_write_50 (r50 : Nat → Nat → Int32 → AH → Option (Int32 × AH)) (a0 : Nat) (a2 : Nat) (a3 : Int32) (h : AH) : Option (Int32 × AH) :=
  (g_i h a2 0 11).bind fun x1 => if x1 ≤ a3 then b_X4_write_80 a0 h else b_X4_write_58 r50 a0 a2 a3 h
set_option maxHeartbeats 4000000 in
set_option maxRecDepth 100000 in
theorem q_X4_write_50 {hE : AH} {v : Int32} {r50 : Nat → Nat → Int32 → AH → Option (Int32 × AH)} (hr50 : ∀ (b0 : Nat) (b2 : Nat) (b3 : Int32) (h : AH), r50 b0 b2 b3 h = some (v, hE) → JD cX4_write 4 RX4 "write" (some .int) (11) 50 [(0, .inr (.inr (b0))), (2, .inr (.inr (b2))), (3, .inl (b3))] [] h hE (some (.inl (v)))) {a0 : Nat} {a2 : Nat} {a3 : Int32} {h : AH} (hf : b_X4_write_50 r50 a0 a2 a3 h = some (v, hE)) : JD cX4_write 4 RX4 "write" (some .int) (11) 50 [(0, .inr (.inr (a0))), (2, .inr (.inr (a2))), (3, .inl (a3))] [] h hE (some (.inl (v))) := by
  unfold b_X4_write_50 at hf
  obtain ⟨x1, e1, hf⟩ := bnd hf
  have mE : hp_n h ≤ hp_n hE ∧ hp_s h ≤ hp_s hE := by
    by_cases hc : x1 ≤ a3
    · rw [if_pos hc] at hf; exact (q_X4_write_80 hf).1
    · rw [if_neg hc] at hf; exact (q_X4_write_58 hr50 hf).1
  refine ⟨by omega, fun X g K ok nmx lev hK en => ?_⟩
  refine tj_iload_n ok 2 dX4_write_50 rfl rfl ?_
  refine tj_aload_n ok 1 dX4_write_51 rfl rfl ?_
  refine tj_getI (k := 11) ok fcX0 (by decide) wm_964 rfl (Or.inl rfl) dX4_write_52 e1 ?_
  refine tj_icmp_ge (tgt := 80) ok dX4_write_55 (by decide) (fun hc => ?_) (fun hc => ?_)
  · rw [if_pos hc] at hf
    refine tj_sub (lv' := [(0, .inr (.inr (a0)))]) [0] rfl ?_
    exact (q_X4_write_80 hf).2 X g K ok nmx lev hK en
  · rw [if_neg hc] at hf
    exact (q_X4_write_58 hr50 hf).2 X g K ok nmx lev hK en
def l_X4_write_50 : Nat → Nat → Nat → Int32 → AH → Option (Int32 × AH)
  | 0 => fun _ _ _ _ => none
  | n + 1 => fun a0 a2 a3 h => b_X4_write_50 (l_X4_write_50 n) a0 a2 a3 h
theorem ql_X4_write_50 {n : Nat} {a0 : Nat} {a2 : Nat} {a3 : Int32} {h hE : AH} {v : Int32} (hf : l_X4_write_50 n a0 a2 a3 h = some (v, hE)) : JD cX4_write 4 RX4 "write" (some .int) (11) 50 [(0, .inr (.inr (a0))), (2, .inr (.inr (a2))), (3, .inl (a3))] [] h hE (some (.inl (v))) := by
  induction n generalizing a0 a2 a3 h with
  | zero => cases hf
  | succ n ih => exact q_X4_write_50 (fun _ _ _ _ hf => ih hf) hf
def b_X4_write_0 (a0 : Nat) (a1 : Nat) (h : AH) : Option (Int32 × AH) :=
  (p_i h a0 4 0 (0 : Int32)).bind fun h1 => (p_z h1 a0 4 2 (1 : Int32)).bind fun h2 => (ok_v h2 a1 5).bind fun x3 => (f_X5_cellsOfKind a1 (0 : Int32) h2).bind fun q4 => (ok_v q4.2 a0 4).bind fun x5 => (f_X4_writeDeclaration a0 2 q4.1 q4.2).bind fun h6 => (ok_v h6 a1 5).bind fun x7 => (f_X5_cellsOfKind a1 (1 : Int32) h6).bind fun q8 => (ok_v q8.2 a0 4).bind fun x9 => (f_X4_writeDeclaration a0 3 q8.1 q8.2).bind fun h10 => (ok_v h10 a1 5).bind fun x11 => (f_X5_cellsOfKind a1 (2 : Int32) h10).bind fun q12 => (ok_v q12.2 a0 4).bind fun x13 => (f_X4_writeDeclaration a0 4 q12.1 q12.2).bind fun h14 => (g_r h14 a1 5 0).bind fun x15 => l_X4_write_50 fu_ a0 x15 (0 : Int32) h14
set_option maxHeartbeats 4000000 in
set_option maxRecDepth 100000 in
theorem q_X4_write_0 {a0 : Nat} {a1 : Nat} {h hE : AH} {v : Int32} (hf : b_X4_write_0 a0 a1 h = some (v, hE)) : JD cX4_write 4 RX4 "write" (some .int) (11) 0 [(0, .inr (.inr (a0))), (1, .inr (.inr (a1)))] [] h hE (some (.inl (v))) := by
  unfold b_X4_write_0 at hf
  obtain ⟨h1, e1, hf⟩ := bnd hf
  have m1 := nn_pi e1
  obtain ⟨h2, e2, hf⟩ := bnd hf
  have m2 := nn_pz e2
  obtain ⟨x3, e3, hf⟩ := bnd hf
  obtain ⟨⟨x4, h4⟩, e4, hf⟩ := bnd hf
  try dsimp only at hf
  have k4 := c_X5_cellsOfKind e4
  have m4 := (k4 default_g).1
  obtain ⟨x5, e5, hf⟩ := bnd hf
  obtain ⟨h6, e6, hf⟩ := bnd hf
  have k6 := c_X4_writeDeclaration e6
  have m6 := (k6 default_g).1
  obtain ⟨x7, e7, hf⟩ := bnd hf
  obtain ⟨⟨x8, h8⟩, e8, hf⟩ := bnd hf
  try dsimp only at hf
  have k8 := c_X5_cellsOfKind e8
  have m8 := (k8 default_g).1
  obtain ⟨x9, e9, hf⟩ := bnd hf
  obtain ⟨h10, e10, hf⟩ := bnd hf
  have k10 := c_X4_writeDeclaration e10
  have m10 := (k10 default_g).1
  obtain ⟨x11, e11, hf⟩ := bnd hf
  obtain ⟨⟨x12, h12⟩, e12, hf⟩ := bnd hf
  try dsimp only at hf
  have k12 := c_X5_cellsOfKind e12
  have m12 := (k12 default_g).1
  obtain ⟨x13, e13, hf⟩ := bnd hf
  obtain ⟨h14, e14, hf⟩ := bnd hf
  have k14 := c_X4_writeDeclaration e14
  have m14 := (k14 default_g).1
  obtain ⟨x15, e15, hf⟩ := bnd hf
  have J := ql_X4_write_50 hf
  have mE := J.1
  refine ⟨by omega, fun X g K ok nmx lev hK en => ?_⟩
  refine tj_aload_n ok 0 dX4_write_0 rfl rfl ?_
  refine tj_iconst (v := 0) ok dX4_write_1 (by decide) ?_
  refine tj_putI (k := 0) ok fcX4 (by decide) wm_109 rfl (Or.inl rfl) rfl dX4_write_2 e1 ?_
  refine tj_aload_n ok 0 dX4_write_5 rfl rfl ?_
  refine tj_iconst (v := 1) ok dX4_write_6 (by decide) ?_
  refine tj_putZ (k := 2) ok fcX4 (by decide) wm_111 rfl (Or.inl rfl) rfl dX4_write_7 e2 ?_
  refine tj_aload_n ok 0 dX4_write_10 rfl rfl ?_
  refine tj_ldcS (r := 2) ok (i := 10) rfl ⟨by decide, by decide⟩ dX4_write_11 ?_
  refine tj_aload_n ok 1 dX4_write_13 rfl rfl ?_
  refine tj_iconst (v := 0) ok dX4_write_14 (by decide) ?_
  refine tj_callV (rest := ([.inr (.inr (2)), .inr (.inr (a0))] : List TV).map (vl g)) (as := [.inl ((0 : Int32))]) ok lev (by omega) fcX5.1 (by decide) rfl (of_if e3).1 (k4 g) (CaX.of en (by omega)) kn_X5_cellsOfKind wm_965 wm_467 wm_468 (rs_ok (Nat.le_of_ble_eq_true rfl)) rfl rfl dX4_write_15 ?_
  refine tj_callV (rest := ([] : List TV).map (vl g)) (as := [.inr (.inr (2)), .inl (x4)]) ok lev (by omega) fcX4.1 (by decide) rfl (of_if e5).1 (k6 g) (CaX.of en (by omega)) kn_X4_writeDeclaration wm_966 wm_967 wm_968 (rs_ok (Nat.le_of_ble_eq_true rfl)) rfl rfl dX4_write_18 ?_
  refine tj_aload_n ok 0 dX4_write_21 rfl rfl ?_
  refine tj_ldcS (r := 3) ok (i := 11) rfl ⟨by decide, by decide⟩ dX4_write_22 ?_
  refine tj_aload_n ok 1 dX4_write_24 rfl rfl ?_
  refine tj_iconst (v := 1) ok dX4_write_25 (by decide) ?_
  refine tj_callV (rest := ([.inr (.inr (3)), .inr (.inr (a0))] : List TV).map (vl g)) (as := [.inl ((1 : Int32))]) ok lev (by omega) fcX5.1 (by decide) rfl (of_if e7).1 (k8 g) (CaX.of en (by omega)) kn_X5_cellsOfKind wm_965 wm_467 wm_468 (rs_ok (Nat.le_of_ble_eq_true rfl)) rfl rfl dX4_write_26 ?_
  refine tj_callV (rest := ([] : List TV).map (vl g)) (as := [.inr (.inr (3)), .inl (x8)]) ok lev (by omega) fcX4.1 (by decide) rfl (of_if e9).1 (k10 g) (CaX.of en (by omega)) kn_X4_writeDeclaration wm_966 wm_967 wm_968 (rs_ok (Nat.le_of_ble_eq_true rfl)) rfl rfl dX4_write_29 ?_
  refine tj_aload_n ok 0 dX4_write_32 rfl rfl ?_
  refine tj_ldcS (r := 4) ok (i := 12) rfl ⟨by decide, by decide⟩ dX4_write_33 ?_
  refine tj_aload_n ok 1 dX4_write_35 rfl rfl ?_
  refine tj_iconst (v := 2) ok dX4_write_36 (by decide) ?_
  refine tj_callV (rest := ([.inr (.inr (4)), .inr (.inr (a0))] : List TV).map (vl g)) (as := [.inl ((2 : Int32))]) ok lev (by omega) fcX5.1 (by decide) rfl (of_if e11).1 (k12 g) (CaX.of en (by omega)) kn_X5_cellsOfKind wm_965 wm_467 wm_468 (rs_ok (Nat.le_of_ble_eq_true rfl)) rfl rfl dX4_write_37 ?_
  refine tj_callV (rest := ([] : List TV).map (vl g)) (as := [.inr (.inr (4)), .inl (x12)]) ok lev (by omega) fcX4.1 (by decide) rfl (of_if e13).1 (k14 g) (CaX.of en (by omega)) kn_X4_writeDeclaration wm_966 wm_967 wm_968 (rs_ok (Nat.le_of_ble_eq_true rfl)) rfl rfl dX4_write_40 ?_
  refine tj_aload_n ok 1 dX4_write_43 rfl rfl ?_
  refine tj_getR (k := 0) ok fcX5 (by decide) wm_969 rfl (Or.inl ⟨_, rfl⟩) dX4_write_44 e15 ?_
  refine tj_astore_n (lv' := [(0, .inr (.inr (a0))), (1, .inr (.inr (a1))), (2, .inr (.inr (x15)))]) ok dX4_write_47 rfl (by decide) rfl ?_
  refine tj_iconst (v := 0) ok dX4_write_48 (by decide) ?_
  refine tj_istore_n (lv' := [(0, .inr (.inr (a0))), (1, .inr (.inr (a1))), (2, .inr (.inr (x15))), (3, .inl ((0 : Int32)))]) ok dX4_write_49 rfl (by decide) rfl ?_
  refine tj_sub (lv' := [(0, .inr (.inr (a0))), (2, .inr (.inr (x15))), (3, .inl ((0 : Int32)))]) [0, 2, 3] rfl ?_
  exact J.2 X g K ok nmx lev hK en
def f_X4_write (a0 : Nat) (a1 : Nat) (h : AH) : Option (Int32 × AH) := b_X4_write_0  a0 a1 h
theorem c_X4_write {a0 : Nat} {a1 : Nat} {h hE : AH} {v : Int32} (hf : f_X4_write a0 a1 h = some (v, hE)) : ∀ g : GT, CM g (11) yX4_write cX4_write 4 (some .int) h [.inr (.inr (a0)), .inr (.inr (a1))] hE (some (.inl (v))) :=
  CM.ofJ (by decide) (by show _ ≤ 4; exact Nat.le_of_ble_eq_true rfl) (q_X4_write_0 hf)
