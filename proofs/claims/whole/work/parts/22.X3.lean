theorem dX3_init_0 : decode cX3_init 0 = .ok (.aload_n 0, 1) := by decide +kernel
theorem dX3_init_1 : decode cX3_init 1 = .ok (.invokespecial 3, 3) := by decide +kernel
theorem dX3_init_4 : decode cX3_init 4 = .ok (.aload_n 0, 1) := by decide +kernel
theorem dX3_init_5 : decode cX3_init 5 = .ok (.bipush 64, 2) := by decide +kernel
theorem dX3_init_7 : decode cX3_init 7 = .ok (.newarray .int, 2) := by decide +kernel
theorem dX3_init_9 : decode cX3_init 9 = .ok (.putfield 11, 3) := by decide +kernel
theorem dX3_init_12 : decode cX3_init 12 = .ok (.aload_n 0, 1) := by decide +kernel
theorem dX3_init_13 : decode cX3_init 13 = .ok (.iconst 0, 1) := by decide +kernel
theorem dX3_init_14 : decode cX3_init 14 = .ok (.putfield 15, 3) := by decide +kernel
theorem dX3_init_17 : decode cX3_init 17 = .ok (.return_, 1) := by decide +kernel
theorem dX3_clear_0 : decode cX3_clear 0 = .ok (.aload_n 0, 1) := by decide +kernel
theorem dX3_clear_1 : decode cX3_clear 1 = .ok (.iconst 0, 1) := by decide +kernel
theorem dX3_clear_2 : decode cX3_clear 2 = .ok (.putfield 15, 3) := by decide +kernel
theorem dX3_clear_5 : decode cX3_clear 5 = .ok (.return_, 1) := by decide +kernel
theorem dX3_copy_0 : decode cX3_copy 0 = .ok (.aload_n 0, 1) := by decide +kernel
theorem dX3_copy_1 : decode cX3_copy 1 = .ok (.getfield 11, 3) := by decide +kernel
theorem dX3_copy_4 : decode cX3_copy 4 = .ok (.aload_n 0, 1) := by decide +kernel
theorem dX3_copy_5 : decode cX3_copy 5 = .ok (.getfield 15, 3) := by decide +kernel
theorem dX3_copy_8 : decode cX3_copy 8 = .ok (.invokestatic 33, 3) := by decide +kernel
theorem dX3_copy_11 : decode cX3_copy 11 = .ok (.areturn, 1) := by decide +kernel
theorem dX3_countBelow_0 : decode cX3_countBelow 0 = .ok (.iconst 0, 1) := by decide +kernel
theorem dX3_countBelow_1 : decode cX3_countBelow 1 = .ok (.istore_n 3, 1) := by decide +kernel
theorem dX3_countBelow_2 : decode cX3_countBelow 2 = .ok (.iload_n 1, 1) := by decide +kernel
theorem dX3_countBelow_3 : decode cX3_countBelow 3 = .ok (.aload_n 0, 1) := by decide +kernel
theorem dX3_countBelow_4 : decode cX3_countBelow 4 = .ok (.arraylength, 1) := by decide +kernel
theorem dX3_countBelow_5 : decode cX3_countBelow 5 = .ok (.invokestatic 23, 3) := by decide +kernel
theorem dX3_countBelow_8 : decode cX3_countBelow 8 = .ok (.istore 4, 2) := by decide +kernel
theorem dX3_countBelow_10 : decode cX3_countBelow 10 = .ok (.iconst 0, 1) := by decide +kernel
theorem dX3_countBelow_11 : decode cX3_countBelow 11 = .ok (.istore 5, 2) := by decide +kernel
theorem dX3_countBelow_13 : decode cX3_countBelow 13 = .ok (.iload 5, 2) := by decide +kernel
theorem dX3_countBelow_15 : decode cX3_countBelow 15 = .ok (.bipush 32, 2) := by decide +kernel
theorem dX3_countBelow_17 : decode cX3_countBelow 17 = .ok (.if_icmp .ge 43, 3) := by decide +kernel
theorem dX3_countBelow_20 : decode cX3_countBelow 20 = .ok (.iload_n 3, 1) := by decide +kernel
theorem dX3_countBelow_21 : decode cX3_countBelow 21 = .ok (.iload 4, 2) := by decide +kernel
theorem dX3_countBelow_23 : decode cX3_countBelow 23 = .ok (.if_icmp .ge 37, 3) := by decide +kernel
theorem dX3_countBelow_26 : decode cX3_countBelow 26 = .ok (.iload_n 3, 1) := by decide +kernel
theorem dX3_countBelow_27 : decode cX3_countBelow 27 = .ok (.iload 4, 2) := by decide +kernel
theorem dX3_countBelow_29 : decode cX3_countBelow 29 = .ok (.iadd, 1) := by decide +kernel
theorem dX3_countBelow_30 : decode cX3_countBelow 30 = .ok (.iconst 1, 1) := by decide +kernel
theorem dX3_countBelow_31 : decode cX3_countBelow 31 = .ok (.iushr, 1) := by decide +kernel
theorem dX3_countBelow_32 : decode cX3_countBelow 32 = .ok (.istore 6, 2) := by decide +kernel
theorem dX3_countBelow_34 : decode cX3_countBelow 34 = .ok (.aload_n 0, 1) := by decide +kernel
theorem dX3_countBelow_35 : decode cX3_countBelow 35 = .ok (.iload 6, 2) := by decide +kernel
theorem dX3_countBelow_37 : decode cX3_countBelow 37 = .ok (.iaload, 1) := by decide +kernel
theorem dX3_countBelow_38 : decode cX3_countBelow 38 = .ok (.iload_n 2, 1) := by decide +kernel
theorem dX3_countBelow_39 : decode cX3_countBelow 39 = .ok (.if_icmp .ge 11, 3) := by decide +kernel
theorem dX3_countBelow_42 : decode cX3_countBelow 42 = .ok (.iload 6, 2) := by decide +kernel
theorem dX3_countBelow_44 : decode cX3_countBelow 44 = .ok (.iconst 1, 1) := by decide +kernel
theorem dX3_countBelow_45 : decode cX3_countBelow 45 = .ok (.iadd, 1) := by decide +kernel
theorem dX3_countBelow_46 : decode cX3_countBelow 46 = .ok (.istore_n 3, 1) := by decide +kernel
theorem dX3_countBelow_47 : decode cX3_countBelow 47 = .ok (.goto 7, 3) := by decide +kernel
theorem dX3_countBelow_50 : decode cX3_countBelow 50 = .ok (.iload 6, 2) := by decide +kernel
theorem dX3_countBelow_52 : decode cX3_countBelow 52 = .ok (.istore 4, 2) := by decide +kernel
theorem dX3_countBelow_54 : decode cX3_countBelow 54 = .ok (.iinc 5 1, 3) := by decide +kernel
theorem dX3_countBelow_57 : decode cX3_countBelow 57 = .ok (.goto (-44), 3) := by decide +kernel
theorem dX3_countBelow_60 : decode cX3_countBelow 60 = .ok (.iload_n 3, 1) := by decide +kernel
theorem dX3_countBelow_61 : decode cX3_countBelow 61 = .ok (.ireturn, 1) := by decide +kernel
theorem dX3_add_0 : decode cX3_add 0 = .ok (.aload_n 0, 1) := by decide +kernel
theorem dX3_add_1 : decode cX3_add 1 = .ok (.getfield 11, 3) := by decide +kernel
theorem dX3_add_4 : decode cX3_add 4 = .ok (.aload_n 0, 1) := by decide +kernel
theorem dX3_add_5 : decode cX3_add 5 = .ok (.getfield 15, 3) := by decide +kernel
theorem dX3_add_8 : decode cX3_add 8 = .ok (.iload_n 1, 1) := by decide +kernel
theorem dX3_add_9 : decode cX3_add 9 = .ok (.invokestatic 28, 3) := by decide +kernel
theorem dX3_add_12 : decode cX3_add 12 = .ok (.istore_n 2, 1) := by decide +kernel
theorem dX3_add_13 : decode cX3_add 13 = .ok (.iload_n 2, 1) := by decide +kernel
theorem dX3_add_14 : decode cX3_add 14 = .ok (.aload_n 0, 1) := by decide +kernel
theorem dX3_add_15 : decode cX3_add 15 = .ok (.getfield 15, 3) := by decide +kernel
theorem dX3_add_18 : decode cX3_add 18 = .ok (.if_icmp .ge 14, 3) := by decide +kernel
theorem dX3_add_21 : decode cX3_add 21 = .ok (.aload_n 0, 1) := by decide +kernel
theorem dX3_add_22 : decode cX3_add 22 = .ok (.getfield 11, 3) := by decide +kernel
theorem dX3_add_25 : decode cX3_add 25 = .ok (.iload_n 2, 1) := by decide +kernel
theorem dX3_add_26 : decode cX3_add 26 = .ok (.iaload, 1) := by decide +kernel
theorem dX3_add_27 : decode cX3_add 27 = .ok (.iload_n 1, 1) := by decide +kernel
theorem dX3_add_28 : decode cX3_add 28 = .ok (.if_icmp .ne 4, 3) := by decide +kernel
theorem dX3_add_31 : decode cX3_add 31 = .ok (.return_, 1) := by decide +kernel
theorem dX3_add_32 : decode cX3_add 32 = .ok (.aload_n 0, 1) := by decide +kernel
theorem dX3_add_33 : decode cX3_add 33 = .ok (.getfield 15, 3) := by decide +kernel
theorem dX3_add_36 : decode cX3_add 36 = .ok (.aload_n 0, 1) := by decide +kernel
theorem dX3_add_37 : decode cX3_add 37 = .ok (.getfield 11, 3) := by decide +kernel
theorem dX3_add_40 : decode cX3_add 40 = .ok (.arraylength, 1) := by decide +kernel
theorem dX3_add_41 : decode cX3_add 41 = .ok (.if_icmp .lt 31, 3) := by decide +kernel
theorem dX3_add_44 : decode cX3_add 44 = .ok (.aload_n 0, 1) := by decide +kernel
theorem dX3_add_45 : decode cX3_add 45 = .ok (.getfield 11, 3) := by decide +kernel
theorem dX3_add_48 : decode cX3_add 48 = .ok (.arraylength, 1) := by decide +kernel
theorem dX3_add_49 : decode cX3_add 49 = .ok (.ldc 32, 2) := by decide +kernel
theorem dX3_add_51 : decode cX3_add 51 = .ok (.if_icmp .ge 21, 3) := by decide +kernel
theorem dX3_add_54 : decode cX3_add 54 = .ok (.aload_n 0, 1) := by decide +kernel
theorem dX3_add_55 : decode cX3_add 55 = .ok (.aload_n 0, 1) := by decide +kernel
theorem dX3_add_56 : decode cX3_add 56 = .ok (.getfield 11, 3) := by decide +kernel
theorem dX3_add_59 : decode cX3_add 59 = .ok (.iconst 2, 1) := by decide +kernel
theorem dX3_add_60 : decode cX3_add 60 = .ok (.aload_n 0, 1) := by decide +kernel
theorem dX3_add_61 : decode cX3_add 61 = .ok (.getfield 11, 3) := by decide +kernel
theorem dX3_add_64 : decode cX3_add 64 = .ok (.arraylength, 1) := by decide +kernel
theorem dX3_add_65 : decode cX3_add 65 = .ok (.imul, 1) := by decide +kernel
theorem dX3_add_66 : decode cX3_add 66 = .ok (.invokestatic 33, 3) := by decide +kernel
theorem dX3_add_69 : decode cX3_add 69 = .ok (.putfield 11, 3) := by decide +kernel
theorem dX3_add_72 : decode cX3_add 72 = .ok (.aload_n 0, 1) := by decide +kernel
theorem dX3_add_73 : decode cX3_add 73 = .ok (.getfield 15, 3) := by decide +kernel
theorem dX3_add_76 : decode cX3_add 76 = .ok (.aload_n 0, 1) := by decide +kernel
theorem dX3_add_77 : decode cX3_add 77 = .ok (.getfield 11, 3) := by decide +kernel
theorem dX3_add_80 : decode cX3_add 80 = .ok (.arraylength, 1) := by decide +kernel
theorem dX3_add_81 : decode cX3_add 81 = .ok (.if_icmp .ge 50, 3) := by decide +kernel
theorem dX3_add_84 : decode cX3_add 84 = .ok (.aload_n 0, 1) := by decide +kernel
theorem dX3_add_85 : decode cX3_add 85 = .ok (.getfield 15, 3) := by decide +kernel
theorem dX3_add_88 : decode cX3_add 88 = .ok (.istore_n 3, 1) := by decide +kernel
theorem dX3_add_89 : decode cX3_add 89 = .ok (.iload_n 3, 1) := by decide +kernel
theorem dX3_add_90 : decode cX3_add 90 = .ok (.iload_n 2, 1) := by decide +kernel
theorem dX3_add_91 : decode cX3_add 91 = .ok (.if_icmp .le 23, 3) := by decide +kernel
theorem dX3_add_94 : decode cX3_add 94 = .ok (.aload_n 0, 1) := by decide +kernel
theorem dX3_add_95 : decode cX3_add 95 = .ok (.getfield 11, 3) := by decide +kernel
theorem dX3_add_98 : decode cX3_add 98 = .ok (.iload_n 3, 1) := by decide +kernel
theorem dX3_add_99 : decode cX3_add 99 = .ok (.aload_n 0, 1) := by decide +kernel
theorem dX3_add_100 : decode cX3_add 100 = .ok (.getfield 11, 3) := by decide +kernel
theorem dX3_add_103 : decode cX3_add 103 = .ok (.iload_n 3, 1) := by decide +kernel
theorem dX3_add_104 : decode cX3_add 104 = .ok (.iconst 1, 1) := by decide +kernel
theorem dX3_add_105 : decode cX3_add 105 = .ok (.isub, 1) := by decide +kernel
theorem dX3_add_106 : decode cX3_add 106 = .ok (.iaload, 1) := by decide +kernel
theorem dX3_add_107 : decode cX3_add 107 = .ok (.iastore, 1) := by decide +kernel
theorem dX3_add_108 : decode cX3_add 108 = .ok (.iinc 3 (-1), 3) := by decide +kernel
theorem dX3_add_111 : decode cX3_add 111 = .ok (.goto (-22), 3) := by decide +kernel
theorem dX3_add_114 : decode cX3_add 114 = .ok (.aload_n 0, 1) := by decide +kernel
theorem dX3_add_115 : decode cX3_add 115 = .ok (.getfield 11, 3) := by decide +kernel
theorem dX3_add_118 : decode cX3_add 118 = .ok (.iload_n 2, 1) := by decide +kernel
theorem dX3_add_119 : decode cX3_add 119 = .ok (.iload_n 1, 1) := by decide +kernel
theorem dX3_add_120 : decode cX3_add 120 = .ok (.iastore, 1) := by decide +kernel
theorem dX3_add_121 : decode cX3_add 121 = .ok (.aload_n 0, 1) := by decide +kernel
theorem dX3_add_122 : decode cX3_add 122 = .ok (.dup, 1) := by decide +kernel
theorem dX3_add_123 : decode cX3_add 123 = .ok (.getfield 15, 3) := by decide +kernel
theorem dX3_add_126 : decode cX3_add 126 = .ok (.iconst 1, 1) := by decide +kernel
theorem dX3_add_127 : decode cX3_add 127 = .ok (.iadd, 1) := by decide +kernel
theorem dX3_add_128 : decode cX3_add 128 = .ok (.putfield 15, 3) := by decide +kernel
theorem dX3_add_131 : decode cX3_add 131 = .ok (.return_, 1) := by decide +kernel
theorem dX3_holds_0 : decode cX3_holds 0 = .ok (.aload_n 0, 1) := by decide +kernel
theorem dX3_holds_1 : decode cX3_holds 1 = .ok (.aload_n 0, 1) := by decide +kernel
theorem dX3_holds_2 : decode cX3_holds 2 = .ok (.arraylength, 1) := by decide +kernel
theorem dX3_holds_3 : decode cX3_holds 3 = .ok (.iload_n 1, 1) := by decide +kernel
theorem dX3_holds_4 : decode cX3_holds 4 = .ok (.invokestatic 28, 3) := by decide +kernel
theorem dX3_holds_7 : decode cX3_holds 7 = .ok (.istore_n 2, 1) := by decide +kernel
theorem dX3_holds_8 : decode cX3_holds 8 = .ok (.iload_n 2, 1) := by decide +kernel
theorem dX3_holds_9 : decode cX3_holds 9 = .ok (.aload_n 0, 1) := by decide +kernel
theorem dX3_holds_10 : decode cX3_holds 10 = .ok (.arraylength, 1) := by decide +kernel
theorem dX3_holds_11 : decode cX3_holds 11 = .ok (.if_icmp .ge 14, 3) := by decide +kernel
theorem dX3_holds_14 : decode cX3_holds 14 = .ok (.aload_n 0, 1) := by decide +kernel
theorem dX3_holds_15 : decode cX3_holds 15 = .ok (.iload_n 2, 1) := by decide +kernel
theorem dX3_holds_16 : decode cX3_holds 16 = .ok (.iaload, 1) := by decide +kernel
theorem dX3_holds_17 : decode cX3_holds 17 = .ok (.iload_n 1, 1) := by decide +kernel
theorem dX3_holds_18 : decode cX3_holds 18 = .ok (.if_icmp .ne 7, 3) := by decide +kernel
theorem dX3_holds_21 : decode cX3_holds 21 = .ok (.iconst 1, 1) := by decide +kernel
theorem dX3_holds_22 : decode cX3_holds 22 = .ok (.goto 4, 3) := by decide +kernel
theorem dX3_holds_25 : decode cX3_holds 25 = .ok (.iconst 0, 1) := by decide +kernel
theorem dX3_holds_26 : decode cX3_holds 26 = .ok (.ireturn, 1) := by decide +kernel
theorem dX3_valueIn_0 : decode cX3_valueIn 0 = .ok (.iload_n 0, 1) := by decide +kernel
theorem dX3_valueIn_1 : decode cX3_valueIn 1 = .ok (.bipush 20, 2) := by decide +kernel
theorem dX3_valueIn_3 : decode cX3_valueIn 3 = .ok (.iconst 4, 1) := by decide +kernel
theorem dX3_valueIn_4 : decode cX3_valueIn 4 = .ok (.iload_n 1, 1) := by decide +kernel
theorem dX3_valueIn_5 : decode cX3_valueIn 5 = .ok (.imul, 1) := by decide +kernel
theorem dX3_valueIn_6 : decode cX3_valueIn 6 = .ok (.isub, 1) := by decide +kernel
theorem dX3_valueIn_7 : decode cX3_valueIn 7 = .ok (.ishr, 1) := by decide +kernel
theorem dX3_valueIn_8 : decode cX3_valueIn 8 = .ok (.bipush 15, 2) := by decide +kernel
theorem dX3_valueIn_10 : decode cX3_valueIn 10 = .ok (.iand, 1) := by decide +kernel
theorem dX3_valueIn_11 : decode cX3_valueIn 11 = .ok (.ireturn, 1) := by decide +kernel
theorem dX3_meets_0 : decode cX3_meets 0 = .ok (.iconst 0, 1) := by decide +kernel
theorem dX3_meets_1 : decode cX3_meets 1 = .ok (.istore_n 2, 1) := by decide +kernel
theorem dX3_meets_2 : decode cX3_meets 2 = .ok (.iload_n 2, 1) := by decide +kernel
theorem dX3_meets_3 : decode cX3_meets 3 = .ok (.iconst 5, 1) := by decide +kernel
theorem dX3_meets_4 : decode cX3_meets 4 = .ok (.if_icmp .ge 35, 3) := by decide +kernel
theorem dX3_meets_7 : decode cX3_meets 7 = .ok (.iload_n 2, 1) := by decide +kernel
theorem dX3_meets_8 : decode cX3_meets 8 = .ok (.aload_n 1, 1) := by decide +kernel
theorem dX3_meets_9 : decode cX3_meets 9 = .ok (.arraylength, 1) := by decide +kernel
theorem dX3_meets_10 : decode cX3_meets 10 = .ok (.if_icmp .ge 29, 3) := by decide +kernel
theorem dX3_meets_13 : decode cX3_meets 13 = .ok (.aload_n 1, 1) := by decide +kernel
theorem dX3_meets_14 : decode cX3_meets 14 = .ok (.iload_n 2, 1) := by decide +kernel
theorem dX3_meets_15 : decode cX3_meets 15 = .ok (.iaload, 1) := by decide +kernel
theorem dX3_meets_16 : decode cX3_meets 16 = .ok (.iconst (-1), 1) := by decide +kernel
theorem dX3_meets_17 : decode cX3_meets 17 = .ok (.if_icmp .eq 16, 3) := by decide +kernel
theorem dX3_meets_20 : decode cX3_meets 20 = .ok (.aload_n 1, 1) := by decide +kernel
theorem dX3_meets_21 : decode cX3_meets 21 = .ok (.iload_n 2, 1) := by decide +kernel
theorem dX3_meets_22 : decode cX3_meets 22 = .ok (.iaload, 1) := by decide +kernel
theorem dX3_meets_23 : decode cX3_meets 23 = .ok (.iload_n 0, 1) := by decide +kernel
theorem dX3_meets_24 : decode cX3_meets 24 = .ok (.iload_n 2, 1) := by decide +kernel
theorem dX3_meets_25 : decode cX3_meets 25 = .ok (.invokestatic 19, 3) := by decide +kernel
theorem dX3_meets_28 : decode cX3_meets 28 = .ok (.if_icmp .eq 5, 3) := by decide +kernel
theorem dX3_meets_31 : decode cX3_meets 31 = .ok (.iconst 0, 1) := by decide +kernel
theorem dX3_meets_32 : decode cX3_meets 32 = .ok (.ireturn, 1) := by decide +kernel
theorem dX3_meets_33 : decode cX3_meets 33 = .ok (.iinc 2 1, 3) := by decide +kernel
theorem dX3_meets_36 : decode cX3_meets 36 = .ok (.goto (-34), 3) := by decide +kernel
theorem dX3_meets_39 : decode cX3_meets 39 = .ok (.iconst 1, 1) := by decide +kernel
theorem dX3_meets_40 : decode cX3_meets 40 = .ok (.ireturn, 1) := by decide +kernel
theorem dX3_stuckIn_0 : decode cX3_stuckIn 0 = .ok (.iload_n 0, 1) := by decide +kernel
theorem dX3_stuckIn_1 : decode cX3_stuckIn 1 = .ok (.bipush 15, 2) := by decide +kernel
theorem dX3_stuckIn_3 : decode cX3_stuckIn 3 = .ok (.iand, 1) := by decide +kernel
theorem dX3_stuckIn_4 : decode cX3_stuckIn 4 = .ok (.ireturn, 1) := by decide +kernel
theorem kn_X3_init : Kn yX3_init cX3_init 1 none 0 := ⟨wm_156, wm_157, by decide +kernel, by decide⟩
theorem kn_X3_clear : Kn yX3_clear cX3_clear 1 none 0 := ⟨wm_231, wm_157, by decide +kernel, by decide⟩
theorem kn_X3_copy : Kn yX3_copy cX3_copy 1 (some (.array .int)) 0 := ⟨wm_232, wm_157, by decide +kernel, by decide⟩
theorem kn_X3_countBelow : Kn yX3_countBelow cX3_countBelow 7 (some .int) 3 := ⟨wm_375, wm_157, by decide +kernel, by decide⟩
theorem kn_X3_add : Kn yX3_add cX3_add 4 none 1 := ⟨wm_377, wm_157, by decide +kernel, by decide⟩
theorem kn_X3_holds : Kn yX3_holds cX3_holds 3 (some .boolean) 2 := ⟨wm_381, wm_157, by decide +kernel, by decide⟩
theorem kn_X3_valueIn : Kn yX3_valueIn cX3_valueIn 2 (some .int) 2 := ⟨wm_382, wm_157, by decide +kernel, by decide⟩
theorem kn_X3_meets : Kn yX3_meets cX3_meets 3 (some .boolean) 2 := ⟨wm_383, wm_157, by decide +kernel, by decide⟩
theorem kn_X3_stuckIn : Kn yX3_stuckIn cX3_stuckIn 1 (some .int) 1 := ⟨wm_905, wm_157, by decide +kernel, by decide⟩
/-! ===== LitmusHouse$Outcomes.<init>()V ===== -/
def b_X3_init_0 (a0 : Nat) (h : AH) : Option (AH) :=
  (ok_h a0).bind fun x1 => (n_a h 100 (64 : Int32)).bind fun h2 => (p_r h2 a0 3 0 (hp_n h)).bind fun h3 => (p_i h3 a0 3 1 (0 : Int32)).bind fun h4 => some h4
set_option maxHeartbeats 4000000 in
set_option maxRecDepth 100000 in
theorem q_X3_init_0 {a0 : Nat} {h hE : AH} (hf : b_X3_init_0 a0 h = some hE) : JD cX3_init 1 RX3 "<init>" none (2) 0 [(0, .inr (.inr (a0)))] [] h hE none := by
  unfold b_X3_init_0 at hf
  obtain ⟨x1, e1, hf⟩ := bnd hf
  obtain ⟨h2, e2, hf⟩ := bnd hf
  have m2 := nn_n e2
  obtain ⟨h3, e3, hf⟩ := bnd hf
  have m3 := nn_pr e3
  obtain ⟨h4, e4, hf⟩ := bnd hf
  have m4 := nn_pi e4
  have hh := Option.some.inj hf
  subst hh
  have mE : hp_n h4 ≤ hp_n h4 ∧ hp_s h4 ≤ hp_s h4 := ⟨Nat.le_refl _, Nat.le_refl _⟩
  refine ⟨by omega, fun X g K ok nmx lev hK en => ?_⟩
  refine tj_aload_n ok 0 dX3_init_0 rfl rfl ?_
  refine tj_objInit (rest := ([] : List TV).map (vl g)) ok lev (by omega) (of_if e1).1 wm_158 wm_75 wm_obj (rs_ok (Nat.le_of_ble_eq_true rfl)) dX3_init_1 ?_
  refine tj_aload_n ok 0 dX3_init_4 rfl rfl ?_
  refine tj_bipush (v := 64) ok dX3_init_5 (by decide) ?_
  refine tj_newI ok wm_39 dX3_init_7 e2 (CaX.of en (by omega)) ?_
  refine tj_putR (k := 0) ok fcX3 (by decide) wm_159 rfl (Or.inl rfl) (Or.inr ⟨_, rfl⟩) dX3_init_9 e3 ?_
  refine tj_aload_n ok 0 dX3_init_12 rfl rfl ?_
  refine tj_iconst (v := 0) ok dX3_init_13 (by decide) ?_
  refine tj_putI (k := 1) ok fcX3 (by decide) wm_160 rfl (Or.inl rfl) rfl dX3_init_14 e4 ?_
  exact tj_return ok en dX3_init_17
def f_X3_init (a0 : Nat) (h : AH) : Option (AH) := b_X3_init_0  a0 h
theorem c_X3_init {a0 : Nat} {h hE : AH} (hf : f_X3_init a0 h = some hE) : ∀ g : GT, CM g (2) yX3_init cX3_init 1 none h [.inr (.inr (a0))] hE none :=
  CM.ofJ (by decide) (by show _ ≤ 1; exact Nat.le_of_ble_eq_true rfl) (q_X3_init_0 hf)
/-! ===== LitmusHouse$Outcomes.clear()V ===== -/
def b_X3_clear_0 (a0 : Nat) (h : AH) : Option (AH) :=
  (p_i h a0 3 1 (0 : Int32)).bind fun h1 => some h1
set_option maxHeartbeats 4000000 in
set_option maxRecDepth 100000 in
theorem q_X3_clear_0 {a0 : Nat} {h hE : AH} (hf : b_X3_clear_0 a0 h = some hE) : JD cX3_clear 1 RX3 "clear" none (2) 0 [(0, .inr (.inr (a0)))] [] h hE none := by
  unfold b_X3_clear_0 at hf
  obtain ⟨h1, e1, hf⟩ := bnd hf
  have m1 := nn_pi e1
  have hh := Option.some.inj hf
  subst hh
  have mE : hp_n h1 ≤ hp_n h1 ∧ hp_s h1 ≤ hp_s h1 := ⟨Nat.le_refl _, Nat.le_refl _⟩
  refine ⟨by omega, fun X g K ok nmx lev hK en => ?_⟩
  refine tj_aload_n ok 0 dX3_clear_0 rfl rfl ?_
  refine tj_iconst (v := 0) ok dX3_clear_1 (by decide) ?_
  refine tj_putI (k := 1) ok fcX3 (by decide) wm_160 rfl (Or.inl rfl) rfl dX3_clear_2 e1 ?_
  exact tj_return ok en dX3_clear_5
def f_X3_clear (a0 : Nat) (h : AH) : Option (AH) := b_X3_clear_0  a0 h
theorem c_X3_clear {a0 : Nat} {h hE : AH} (hf : f_X3_clear a0 h = some hE) : ∀ g : GT, CM g (2) yX3_clear cX3_clear 1 none h [.inr (.inr (a0))] hE none :=
  CM.ofJ (by decide) (by show _ ≤ 1; exact Nat.le_of_ble_eq_true rfl) (q_X3_clear_0 hf)
/-! ===== LitmusHouse$Outcomes.copy()[I ===== -/
def b_X3_copy_0 (a0 : Nat) (h : AH) : Option (Nat × AH) :=
  (g_r h a0 3 0).bind fun x1 => (g_i h a0 3 1).bind fun x2 => (f_J7_copyOf_59c91 x1 x2 h).bind fun q3 => some (q3.1, q3.2)
set_option maxHeartbeats 4000000 in
set_option maxRecDepth 100000 in
theorem q_X3_copy_0 {a0 : Nat} {h hE : AH} {v : Nat} (hf : b_X3_copy_0 a0 h = some (v, hE)) : JD cX3_copy 1 RX3 "copy" (some (.array .int)) (3) 0 [(0, .inr (.inr (a0)))] [] h hE (some (.inr (.inr (v)))) := by
  unfold b_X3_copy_0 at hf
  obtain ⟨x1, e1, hf⟩ := bnd hf
  obtain ⟨x2, e2, hf⟩ := bnd hf
  obtain ⟨⟨x3, h3⟩, e3, hf⟩ := bnd hf
  try dsimp only at hf
  have k3 := c_J7_copyOf_59c91 e3
  have m3 := (k3 default_g).1
  obtain ⟨hv, hh⟩ := Prod.mk.inj (Option.some.inj hf)
  subst hv
  subst hh
  have mE : hp_n h3 ≤ hp_n h3 ∧ hp_s h3 ≤ hp_s h3 := ⟨Nat.le_refl _, Nat.le_refl _⟩
  refine ⟨by omega, fun X g K ok nmx lev hK en => ?_⟩
  refine tj_aload_n ok 0 dX3_copy_0 rfl rfl ?_
  refine tj_getR (k := 0) ok fcX3 (by decide) wm_159 rfl (Or.inr ⟨_, rfl⟩) dX3_copy_1 e1 ?_
  refine tj_aload_n ok 0 dX3_copy_4 rfl rfl ?_
  refine tj_getI (k := 1) ok fcX3 (by decide) wm_160 rfl (Or.inl rfl) dX3_copy_5 e2 ?_
  refine tj_callS (rest := ([] : List TV).map (vl g)) (as := [.inr (.inr (x1)), .inl (x2)]) ok lev (by omega) (k3 g) (CaX.of en (by omega)) kn_J7_copyOf_59c91 wm_233 wm_234 (rs_ok (Nat.le_of_ble_eq_true rfl)) rfl rfl dX3_copy_8 ?_
  exact tj_areturn ok (Or.inr ⟨_, rfl⟩) en dX3_copy_11
def f_X3_copy (a0 : Nat) (h : AH) : Option (Nat × AH) := b_X3_copy_0  a0 h
theorem c_X3_copy {a0 : Nat} {h hE : AH} {v : Nat} (hf : f_X3_copy a0 h = some (v, hE)) : ∀ g : GT, CM g (3) yX3_copy cX3_copy 1 (some (.array .int)) h [.inr (.inr (a0))] hE (some (.inr (.inr (v)))) :=
  CM.ofJ (by decide) (by show _ ≤ 1; exact Nat.le_of_ble_eq_true rfl) (q_X3_copy_0 hf)
/-! ===== LitmusHouse$Outcomes.countBelow([III)I ===== -/
def b_X3_countBelow_60 (a3 : Int32) (h : AH) : Option (Int32 × AH) :=
  some (a3, h)
set_option maxHeartbeats 4000000 in
set_option maxRecDepth 100000 in
theorem q_X3_countBelow_60 {a3 : Int32} {h hE : AH} {v : Int32} (hf : b_X3_countBelow_60 a3 h = some (v, hE)) : JD cX3_countBelow 7 RX3 "countBelow" (some .int) (2) 60 [(3, .inl (a3))] [] h hE (some (.inl (v))) := by
  unfold b_X3_countBelow_60 at hf
  obtain ⟨hv, hh⟩ := Prod.mk.inj (Option.some.inj hf)
  subst hv
  subst hh
  have mE : hp_n h ≤ hp_n h ∧ hp_s h ≤ hp_s h := ⟨Nat.le_refl _, Nat.le_refl _⟩
  refine ⟨by omega, fun X g K ok nmx lev hK en => ?_⟩
  refine tj_iload_n ok 0 dX3_countBelow_60 rfl rfl ?_
  exact tj_ireturn ok en dX3_countBelow_61
def b_X3_countBelow_54 (r13 : Nat → Int32 → Int32 → Int32 → Int32 → AH → Option (Int32 × AH)) (a0 : Nat) (a2 : Int32) (a3 : Int32) (a4 : Int32) (a5 : Int32) (h : AH) : Option (Int32 × AH) :=
  r13 a0 a2 a3 a4 (a5 + (1 : Int32)) h
set_option maxHeartbeats 4000000 in
set_option maxRecDepth 100000 in
theorem q_X3_countBelow_54 {hE : AH} {v : Int32} {r13 : Nat → Int32 → Int32 → Int32 → Int32 → AH → Option (Int32 × AH)} (hr13 : ∀ (b0 : Nat) (b2 : Int32) (b3 : Int32) (b4 : Int32) (b5 : Int32) (h : AH), r13 b0 b2 b3 b4 b5 h = some (v, hE) → JD cX3_countBelow 7 RX3 "countBelow" (some .int) (2) 13 [(0, .inr (.inr (b0))), (2, .inl (b2)), (3, .inl (b3)), (4, .inl (b4)), (5, .inl (b5))] [] h hE (some (.inl (v)))) {a0 : Nat} {a2 : Int32} {a3 : Int32} {a4 : Int32} {a5 : Int32} {h : AH} (hf : b_X3_countBelow_54 r13 a0 a2 a3 a4 a5 h = some (v, hE)) : JD cX3_countBelow 7 RX3 "countBelow" (some .int) (2) 54 [(0, .inr (.inr (a0))), (2, .inl (a2)), (3, .inl (a3)), (4, .inl (a4)), (5, .inl (a5))] [] h hE (some (.inl (v))) := by
  unfold b_X3_countBelow_54 at hf
  have J := hr13 _ _ _ _ _ _ hf
  have mE := J.1
  refine ⟨by omega, fun X g K ok nmx lev hK en => ?_⟩
  refine tj_iinc (lv' := [(0, .inr (.inr (a0))), (2, .inl (a2)), (3, .inl (a3)), (4, .inl (a4)), (5, .inl (a5 + (1 : Int32)))]) ok 4 dX3_countBelow_54 rfl (rfl) (by decide) rfl ?_
  refine tj_goto (tgt := 13) ok dX3_countBelow_57 (by decide) ?_
  exact J.2 X g K ok nmx lev hK en
def b_X3_countBelow_50 (r13 : Nat → Int32 → Int32 → Int32 → Int32 → AH → Option (Int32 × AH)) (a0 : Nat) (a2 : Int32) (a3 : Int32) (a5 : Int32) (a6 : Int32) (h : AH) : Option (Int32 × AH) :=
  b_X3_countBelow_54 r13 a0 a2 a3 a6 a5 h
set_option maxHeartbeats 4000000 in
set_option maxRecDepth 100000 in
theorem q_X3_countBelow_50 {hE : AH} {v : Int32} {r13 : Nat → Int32 → Int32 → Int32 → Int32 → AH → Option (Int32 × AH)} (hr13 : ∀ (b0 : Nat) (b2 : Int32) (b3 : Int32) (b4 : Int32) (b5 : Int32) (h : AH), r13 b0 b2 b3 b4 b5 h = some (v, hE) → JD cX3_countBelow 7 RX3 "countBelow" (some .int) (2) 13 [(0, .inr (.inr (b0))), (2, .inl (b2)), (3, .inl (b3)), (4, .inl (b4)), (5, .inl (b5))] [] h hE (some (.inl (v)))) {a0 : Nat} {a2 : Int32} {a3 : Int32} {a5 : Int32} {a6 : Int32} {h : AH} (hf : b_X3_countBelow_50 r13 a0 a2 a3 a5 a6 h = some (v, hE)) : JD cX3_countBelow 7 RX3 "countBelow" (some .int) (2) 50 [(0, .inr (.inr (a0))), (2, .inl (a2)), (3, .inl (a3)), (5, .inl (a5)), (6, .inl (a6))] [] h hE (some (.inl (v))) := by
  unfold b_X3_countBelow_50 at hf
  have J := q_X3_countBelow_54 hr13 hf
  have mE := J.1
  refine ⟨by omega, fun X g K ok nmx lev hK en => ?_⟩
  refine tj_iload ok 4 dX3_countBelow_50 rfl ?_
  refine tj_istore (lv' := [(0, .inr (.inr (a0))), (2, .inl (a2)), (3, .inl (a3)), (4, .inl (a6)), (5, .inl (a5)), (6, .inl (a6))]) ok dX3_countBelow_52 (by decide) rfl ?_
  refine tj_sub (lv' := [(0, .inr (.inr (a0))), (2, .inl (a2)), (3, .inl (a3)), (4, .inl (a6)), (5, .inl (a5))]) [0, 1, 2, 3, 4] rfl ?_
  exact J.2 X g K ok nmx lev hK en
def b_X3_countBelow_42 (r13 : Nat → Int32 → Int32 → Int32 → Int32 → AH → Option (Int32 × AH)) (a0 : Nat) (a2 : Int32) (a4 : Int32) (a5 : Int32) (a6 : Int32) (h : AH) : Option (Int32 × AH) :=
  b_X3_countBelow_54 r13 a0 a2 (a6 + (1 : Int32)) a4 a5 h
set_option maxHeartbeats 4000000 in
set_option maxRecDepth 100000 in
theorem q_X3_countBelow_42 {hE : AH} {v : Int32} {r13 : Nat → Int32 → Int32 → Int32 → Int32 → AH → Option (Int32 × AH)} (hr13 : ∀ (b0 : Nat) (b2 : Int32) (b3 : Int32) (b4 : Int32) (b5 : Int32) (h : AH), r13 b0 b2 b3 b4 b5 h = some (v, hE) → JD cX3_countBelow 7 RX3 "countBelow" (some .int) (2) 13 [(0, .inr (.inr (b0))), (2, .inl (b2)), (3, .inl (b3)), (4, .inl (b4)), (5, .inl (b5))] [] h hE (some (.inl (v)))) {a0 : Nat} {a2 : Int32} {a4 : Int32} {a5 : Int32} {a6 : Int32} {h : AH} (hf : b_X3_countBelow_42 r13 a0 a2 a4 a5 a6 h = some (v, hE)) : JD cX3_countBelow 7 RX3 "countBelow" (some .int) (2) 42 [(0, .inr (.inr (a0))), (2, .inl (a2)), (4, .inl (a4)), (5, .inl (a5)), (6, .inl (a6))] [] h hE (some (.inl (v))) := by
  unfold b_X3_countBelow_42 at hf
  have J := q_X3_countBelow_54 hr13 hf
  have mE := J.1
  refine ⟨by omega, fun X g K ok nmx lev hK en => ?_⟩
  refine tj_iload ok 4 dX3_countBelow_42 rfl ?_
  refine tj_iconst (v := 1) ok dX3_countBelow_44 (by decide) ?_
  refine tj_iadd ok dX3_countBelow_45 ?_
  refine tj_istore_n (lv' := [(0, .inr (.inr (a0))), (2, .inl (a2)), (3, .inl (a6 + (1 : Int32))), (4, .inl (a4)), (5, .inl (a5)), (6, .inl (a6))]) ok dX3_countBelow_46 rfl (by decide) rfl ?_
  refine tj_goto (tgt := 54) ok dX3_countBelow_47 (by decide) ?_
  refine tj_sub (lv' := [(0, .inr (.inr (a0))), (2, .inl (a2)), (3, .inl (a6 + (1 : Int32))), (4, .inl (a4)), (5, .inl (a5))]) [0, 1, 2, 3, 4] rfl ?_
  exact J.2 X g K ok nmx lev hK en
def b_X3_countBelow_26 (r13 : Nat → Int32 → Int32 → Int32 → Int32 → AH → Option (Int32 × AH)) (a0 : Nat) (a2 : Int32) (a3 : Int32) (a4 : Int32) (a5 : Int32) (h : AH) : Option (Int32 × AH) :=
  (l_i h a0 (us_i (a3 + a4) (1 : Int32))).bind fun x1 => if a2 ≤ x1 then b_X3_countBelow_50 r13 a0 a2 a3 a5 (us_i (a3 + a4) (1 : Int32)) h else b_X3_countBelow_42 r13 a0 a2 a4 a5 (us_i (a3 + a4) (1 : Int32)) h
set_option maxHeartbeats 4000000 in
set_option maxRecDepth 100000 in
theorem q_X3_countBelow_26 {hE : AH} {v : Int32} {r13 : Nat → Int32 → Int32 → Int32 → Int32 → AH → Option (Int32 × AH)} (hr13 : ∀ (b0 : Nat) (b2 : Int32) (b3 : Int32) (b4 : Int32) (b5 : Int32) (h : AH), r13 b0 b2 b3 b4 b5 h = some (v, hE) → JD cX3_countBelow 7 RX3 "countBelow" (some .int) (2) 13 [(0, .inr (.inr (b0))), (2, .inl (b2)), (3, .inl (b3)), (4, .inl (b4)), (5, .inl (b5))] [] h hE (some (.inl (v)))) {a0 : Nat} {a2 : Int32} {a3 : Int32} {a4 : Int32} {a5 : Int32} {h : AH} (hf : b_X3_countBelow_26 r13 a0 a2 a3 a4 a5 h = some (v, hE)) : JD cX3_countBelow 7 RX3 "countBelow" (some .int) (2) 26 [(0, .inr (.inr (a0))), (2, .inl (a2)), (3, .inl (a3)), (4, .inl (a4)), (5, .inl (a5))] [] h hE (some (.inl (v))) := by
  unfold b_X3_countBelow_26 at hf
  obtain ⟨x1, e1, hf⟩ := bnd hf
  have mE : hp_n h ≤ hp_n hE ∧ hp_s h ≤ hp_s hE := by
    by_cases hc : a2 ≤ x1
    · rw [if_pos hc] at hf; exact (q_X3_countBelow_50 hr13 hf).1
    · rw [if_neg hc] at hf; exact (q_X3_countBelow_42 hr13 hf).1
  refine ⟨by omega, fun X g K ok nmx lev hK en => ?_⟩
  refine tj_iload_n ok 2 dX3_countBelow_26 rfl rfl ?_
  refine tj_iload ok 3 dX3_countBelow_27 rfl ?_
  refine tj_iadd ok dX3_countBelow_29 ?_
  refine tj_iconst (v := 1) ok dX3_countBelow_30 (by decide) ?_
  refine tj_iushr ok dX3_countBelow_31 ?_
  refine tj_istore (lv' := [(0, .inr (.inr (a0))), (2, .inl (a2)), (3, .inl (a3)), (4, .inl (a4)), (5, .inl (a5)), (6, .inl (us_i (a3 + a4) (1 : Int32)))]) ok dX3_countBelow_32 (by decide) rfl ?_
  refine tj_aload_n ok 0 dX3_countBelow_34 rfl rfl ?_
  refine tj_iload ok 5 dX3_countBelow_35 rfl ?_
  refine tj_iaload ok dX3_countBelow_37 e1 ?_
  refine tj_iload_n ok 1 dX3_countBelow_38 rfl rfl ?_
  refine tj_icmp_ge (tgt := 50) ok dX3_countBelow_39 (by decide) (fun hc => ?_) (fun hc => ?_)
  · rw [if_pos hc] at hf
    refine tj_sub (lv' := [(0, .inr (.inr (a0))), (2, .inl (a2)), (3, .inl (a3)), (5, .inl (a5)), (6, .inl (us_i (a3 + a4) (1 : Int32)))]) [0, 1, 2, 4, 5] rfl ?_
    exact (q_X3_countBelow_50 hr13 hf).2 X g K ok nmx lev hK en
  · rw [if_neg hc] at hf
    refine tj_sub (lv' := [(0, .inr (.inr (a0))), (2, .inl (a2)), (4, .inl (a4)), (5, .inl (a5)), (6, .inl (us_i (a3 + a4) (1 : Int32)))]) [0, 1, 3, 4, 5] rfl ?_
    exact (q_X3_countBelow_42 hr13 hf).2 X g K ok nmx lev hK en
def b_X3_countBelow_20 (r13 : Nat → Int32 → Int32 → Int32 → Int32 → AH → Option (Int32 × AH)) (a0 : Nat) (a2 : Int32) (a3 : Int32) (a4 : Int32) (a5 : Int32) (h : AH) : Option (Int32 × AH) :=
  if a4 ≤ a3 then b_X3_countBelow_60 a3 h else b_X3_countBelow_26 r13 a0 a2 a3 a4 a5 h
set_option maxHeartbeats 4000000 in
set_option maxRecDepth 100000 in
theorem q_X3_countBelow_20 {hE : AH} {v : Int32} {r13 : Nat → Int32 → Int32 → Int32 → Int32 → AH → Option (Int32 × AH)} (hr13 : ∀ (b0 : Nat) (b2 : Int32) (b3 : Int32) (b4 : Int32) (b5 : Int32) (h : AH), r13 b0 b2 b3 b4 b5 h = some (v, hE) → JD cX3_countBelow 7 RX3 "countBelow" (some .int) (2) 13 [(0, .inr (.inr (b0))), (2, .inl (b2)), (3, .inl (b3)), (4, .inl (b4)), (5, .inl (b5))] [] h hE (some (.inl (v)))) {a0 : Nat} {a2 : Int32} {a3 : Int32} {a4 : Int32} {a5 : Int32} {h : AH} (hf : b_X3_countBelow_20 r13 a0 a2 a3 a4 a5 h = some (v, hE)) : JD cX3_countBelow 7 RX3 "countBelow" (some .int) (2) 20 [(0, .inr (.inr (a0))), (2, .inl (a2)), (3, .inl (a3)), (4, .inl (a4)), (5, .inl (a5))] [] h hE (some (.inl (v))) := by
  unfold b_X3_countBelow_20 at hf
  have mE : hp_n h ≤ hp_n hE ∧ hp_s h ≤ hp_s hE := by
    by_cases hc : a4 ≤ a3
    · rw [if_pos hc] at hf; exact (q_X3_countBelow_60 hf).1
    · rw [if_neg hc] at hf; exact (q_X3_countBelow_26 hr13 hf).1
  refine ⟨by omega, fun X g K ok nmx lev hK en => ?_⟩
  refine tj_iload_n ok 2 dX3_countBelow_20 rfl rfl ?_
  refine tj_iload ok 3 dX3_countBelow_21 rfl ?_
  refine tj_icmp_ge (tgt := 60) ok dX3_countBelow_23 (by decide) (fun hc => ?_) (fun hc => ?_)
  · rw [if_pos hc] at hf
    refine tj_sub (lv' := [(3, .inl (a3))]) [2] rfl ?_
    exact (q_X3_countBelow_60 hf).2 X g K ok nmx lev hK en
  · rw [if_neg hc] at hf
    exact (q_X3_countBelow_26 hr13 hf).2 X g K ok nmx lev hK en
def b_X3_countBelow_13 (r13 : Nat → Int32 → Int32 → Int32 → Int32 → AH → Option (Int32 × AH)) (a0 : Nat) (a2 : Int32) (a3 : Int32) (a4 : Int32) (a5 : Int32) (h : AH) : Option (Int32 × AH) :=
  if (32 : Int32) ≤ a5 then b_X3_countBelow_60 a3 h else b_X3_countBelow_20 r13 a0 a2 a3 a4 a5 h
set_option maxHeartbeats 4000000 in
set_option maxRecDepth 100000 in
theorem q_X3_countBelow_13 {hE : AH} {v : Int32} {r13 : Nat → Int32 → Int32 → Int32 → Int32 → AH → Option (Int32 × AH)} (hr13 : ∀ (b0 : Nat) (b2 : Int32) (b3 : Int32) (b4 : Int32) (b5 : Int32) (h : AH), r13 b0 b2 b3 b4 b5 h = some (v, hE) → JD cX3_countBelow 7 RX3 "countBelow" (some .int) (2) 13 [(0, .inr (.inr (b0))), (2, .inl (b2)), (3, .inl (b3)), (4, .inl (b4)), (5, .inl (b5))] [] h hE (some (.inl (v)))) {a0 : Nat} {a2 : Int32} {a3 : Int32} {a4 : Int32} {a5 : Int32} {h : AH} (hf : b_X3_countBelow_13 r13 a0 a2 a3 a4 a5 h = some (v, hE)) : JD cX3_countBelow 7 RX3 "countBelow" (some .int) (2) 13 [(0, .inr (.inr (a0))), (2, .inl (a2)), (3, .inl (a3)), (4, .inl (a4)), (5, .inl (a5))] [] h hE (some (.inl (v))) := by
  unfold b_X3_countBelow_13 at hf
  have mE : hp_n h ≤ hp_n hE ∧ hp_s h ≤ hp_s hE := by
    by_cases hc : (32 : Int32) ≤ a5
    · rw [if_pos hc] at hf; exact (q_X3_countBelow_60 hf).1
    · rw [if_neg hc] at hf; exact (q_X3_countBelow_20 hr13 hf).1
  refine ⟨by omega, fun X g K ok nmx lev hK en => ?_⟩
  refine tj_iload ok 4 dX3_countBelow_13 rfl ?_
  refine tj_bipush (v := 32) ok dX3_countBelow_15 (by decide) ?_
  refine tj_icmp_ge (tgt := 60) ok dX3_countBelow_17 (by decide) (fun hc => ?_) (fun hc => ?_)
  · rw [if_pos hc] at hf
    refine tj_sub (lv' := [(3, .inl (a3))]) [2] rfl ?_
    exact (q_X3_countBelow_60 hf).2 X g K ok nmx lev hK en
  · rw [if_neg hc] at hf
    exact (q_X3_countBelow_20 hr13 hf).2 X g K ok nmx lev hK en
def l_X3_countBelow_13 : Nat → Nat → Int32 → Int32 → Int32 → Int32 → AH → Option (Int32 × AH)
  | 0 => fun _ _ _ _ _ _ => none
  | n + 1 => fun a0 a2 a3 a4 a5 h => b_X3_countBelow_13 (l_X3_countBelow_13 n) a0 a2 a3 a4 a5 h
theorem ql_X3_countBelow_13 {n : Nat} {a0 : Nat} {a2 : Int32} {a3 : Int32} {a4 : Int32} {a5 : Int32} {h hE : AH} {v : Int32} (hf : l_X3_countBelow_13 n a0 a2 a3 a4 a5 h = some (v, hE)) : JD cX3_countBelow 7 RX3 "countBelow" (some .int) (2) 13 [(0, .inr (.inr (a0))), (2, .inl (a2)), (3, .inl (a3)), (4, .inl (a4)), (5, .inl (a5))] [] h hE (some (.inl (v))) := by
  induction n generalizing a0 a2 a3 a4 a5 h with
  | zero => cases hf
  | succ n ih => exact q_X3_countBelow_13 (fun _ _ _ _ _ _ hf => ih hf) hf
def b_X3_countBelow_0 (a0 : Nat) (a1 : Int32) (a2 : Int32) (h : AH) : Option (Int32 × AH) :=
  (al_n h a0).bind fun x1 => l_X3_countBelow_13 fu_ a0 a2 (0 : Int32) (mn_i a1 x1) (0 : Int32) h
set_option maxHeartbeats 4000000 in
set_option maxRecDepth 100000 in
theorem q_X3_countBelow_0 {a0 : Nat} {a1 : Int32} {a2 : Int32} {h hE : AH} {v : Int32} (hf : b_X3_countBelow_0 a0 a1 a2 h = some (v, hE)) : JD cX3_countBelow 7 RX3 "countBelow" (some .int) (2) 0 [(0, .inr (.inr (a0))), (1, .inl (a1)), (2, .inl (a2))] [] h hE (some (.inl (v))) := by
  unfold b_X3_countBelow_0 at hf
  obtain ⟨x1, e1, hf⟩ := bnd hf
  have J := ql_X3_countBelow_13 hf
  have mE := J.1
  refine ⟨by omega, fun X g K ok nmx lev hK en => ?_⟩
  refine tj_iconst (v := 0) ok dX3_countBelow_0 (by decide) ?_
  refine tj_istore_n (lv' := [(0, .inr (.inr (a0))), (1, .inl (a1)), (2, .inl (a2)), (3, .inl ((0 : Int32)))]) ok dX3_countBelow_1 rfl (by decide) rfl ?_
  refine tj_iload_n ok 1 dX3_countBelow_2 rfl rfl ?_
  refine tj_aload_n ok 0 dX3_countBelow_3 rfl rfl ?_
  refine tj_alen ok dX3_countBelow_4 e1 ?_
  refine tj_min (rest := ([] : List TV).map (vl g)) ok lev (by omega) (CaX.of en (by omega)) wm_376 wm_41 wm_42 wm_43 (rs_ok (Nat.le_of_ble_eq_true rfl)) dX3_countBelow_5 ?_
  refine tj_istore (lv' := [(0, .inr (.inr (a0))), (1, .inl (a1)), (2, .inl (a2)), (3, .inl ((0 : Int32))), (4, .inl (mn_i a1 x1))]) ok dX3_countBelow_8 (by decide) rfl ?_
  refine tj_iconst (v := 0) ok dX3_countBelow_10 (by decide) ?_
  refine tj_istore (lv' := [(0, .inr (.inr (a0))), (1, .inl (a1)), (2, .inl (a2)), (3, .inl ((0 : Int32))), (4, .inl (mn_i a1 x1)), (5, .inl ((0 : Int32)))]) ok dX3_countBelow_11 (by decide) rfl ?_
  refine tj_sub (lv' := [(0, .inr (.inr (a0))), (2, .inl (a2)), (3, .inl ((0 : Int32))), (4, .inl (mn_i a1 x1)), (5, .inl ((0 : Int32)))]) [0, 2, 3, 4, 5] rfl ?_
  exact J.2 X g K ok nmx lev hK en
def f_X3_countBelow (a0 : Nat) (a1 : Int32) (a2 : Int32) (h : AH) : Option (Int32 × AH) := b_X3_countBelow_0  a0 a1 a2 h
theorem c_X3_countBelow {a0 : Nat} {a1 : Int32} {a2 : Int32} {h hE : AH} {v : Int32} (hf : f_X3_countBelow a0 a1 a2 h = some (v, hE)) : ∀ g : GT, CM g (2) yX3_countBelow cX3_countBelow 7 (some .int) h [.inr (.inr (a0)), .inl (a1), .inl (a2)] hE (some (.inl (v))) :=
  CM.ofJ (by decide) (by show _ ≤ 7; exact Nat.le_of_ble_eq_true rfl) (q_X3_countBelow_0 hf)
/-! ===== LitmusHouse$Outcomes.add(I)V ===== -/
def b_X3_add_131  (h : AH) : Option (AH) :=
  some h
set_option maxHeartbeats 4000000 in
set_option maxRecDepth 100000 in
theorem q_X3_add_131 {h hE : AH} (hf : b_X3_add_131  h = some hE) : JD cX3_add 4 RX3 "add" none (3) 131 [] [] h hE none := by
  unfold b_X3_add_131 at hf
  have hh := Option.some.inj hf
  subst hh
  have mE : hp_n h ≤ hp_n h ∧ hp_s h ≤ hp_s h := ⟨Nat.le_refl _, Nat.le_refl _⟩
  refine ⟨by omega, fun X g K ok nmx lev hK en => ?_⟩
  exact tj_return ok en dX3_add_131
def b_X3_add_114 (a0 : Nat) (a1 : Int32) (a2 : Int32) (h : AH) : Option (AH) :=
  (g_r h a0 3 0).bind fun x1 => (s_i h x1 a2 a1).bind fun h2 => (g_i h2 a0 3 1).bind fun x3 => (p_i h2 a0 3 1 (x3 + (1 : Int32))).bind fun h4 => b_X3_add_131 h4
set_option maxHeartbeats 4000000 in
set_option maxRecDepth 100000 in
theorem q_X3_add_114 {a0 : Nat} {a1 : Int32} {a2 : Int32} {h hE : AH} (hf : b_X3_add_114 a0 a1 a2 h = some hE) : JD cX3_add 4 RX3 "add" none (3) 114 [(0, .inr (.inr (a0))), (1, .inl (a1)), (2, .inl (a2))] [] h hE none := by
  unfold b_X3_add_114 at hf
  obtain ⟨x1, e1, hf⟩ := bnd hf
  obtain ⟨h2, e2, hf⟩ := bnd hf
  have m2 := nn_si e2
  obtain ⟨x3, e3, hf⟩ := bnd hf
  obtain ⟨h4, e4, hf⟩ := bnd hf
  have m4 := nn_pi e4
  have J := q_X3_add_131 hf
  have mE := J.1
  refine ⟨by omega, fun X g K ok nmx lev hK en => ?_⟩
  refine tj_aload_n ok 0 dX3_add_114 rfl rfl ?_
  refine tj_getR (k := 0) ok fcX3 (by decide) wm_159 rfl (Or.inr ⟨_, rfl⟩) dX3_add_115 e1 ?_
  refine tj_iload_n ok 2 dX3_add_118 rfl rfl ?_
  refine tj_iload_n ok 1 dX3_add_119 rfl rfl ?_
  refine tj_iastore ok dX3_add_120 e2 ?_
  refine tj_aload_n ok 0 dX3_add_121 rfl rfl ?_
  refine tj_dupa ok dX3_add_122 ?_
  refine tj_getI (k := 1) ok fcX3 (by decide) wm_160 rfl (Or.inl rfl) dX3_add_123 e3 ?_
  refine tj_iconst (v := 1) ok dX3_add_126 (by decide) ?_
  refine tj_iadd ok dX3_add_127 ?_
  refine tj_putI (k := 1) ok fcX3 (by decide) wm_160 rfl (Or.inl rfl) rfl dX3_add_128 e4 ?_
  refine tj_sub (lv' := []) [] rfl ?_
  exact J.2 X g K ok nmx lev hK en
def b_X3_add_94 (r89 : Nat → Int32 → Int32 → Int32 → AH → Option (AH)) (a0 : Nat) (a1 : Int32) (a2 : Int32) (a3 : Int32) (h : AH) : Option (AH) :=
  (g_r h a0 3 0).bind fun x1 => (g_r h a0 3 0).bind fun x2 => (l_i h x2 (a3 - (1 : Int32))).bind fun x3 => (s_i h x1 a3 x3).bind fun h4 => r89 a0 a1 a2 (a3 + (-1 : Int32)) h4
set_option maxHeartbeats 4000000 in
set_option maxRecDepth 100000 in
theorem q_X3_add_94 {hE : AH} {r89 : Nat → Int32 → Int32 → Int32 → AH → Option (AH)} (hr89 : ∀ (b0 : Nat) (b1 : Int32) (b2 : Int32) (b3 : Int32) (h : AH), r89 b0 b1 b2 b3 h = some hE → JD cX3_add 4 RX3 "add" none (3) 89 [(0, .inr (.inr (b0))), (1, .inl (b1)), (2, .inl (b2)), (3, .inl (b3))] [] h hE none) {a0 : Nat} {a1 : Int32} {a2 : Int32} {a3 : Int32} {h : AH} (hf : b_X3_add_94 r89 a0 a1 a2 a3 h = some hE) : JD cX3_add 4 RX3 "add" none (3) 94 [(0, .inr (.inr (a0))), (1, .inl (a1)), (2, .inl (a2)), (3, .inl (a3))] [] h hE none := by
  unfold b_X3_add_94 at hf
  obtain ⟨x1, e1, hf⟩ := bnd hf
  obtain ⟨x2, e2, hf⟩ := bnd hf
  obtain ⟨x3, e3, hf⟩ := bnd hf
  obtain ⟨h4, e4, hf⟩ := bnd hf
  have m4 := nn_si e4
  have J := hr89 _ _ _ _ _ hf
  have mE := J.1
  refine ⟨by omega, fun X g K ok nmx lev hK en => ?_⟩
  refine tj_aload_n ok 0 dX3_add_94 rfl rfl ?_
  refine tj_getR (k := 0) ok fcX3 (by decide) wm_159 rfl (Or.inr ⟨_, rfl⟩) dX3_add_95 e1 ?_
  refine tj_iload_n ok 3 dX3_add_98 rfl rfl ?_
  refine tj_aload_n ok 0 dX3_add_99 rfl rfl ?_
  refine tj_getR (k := 0) ok fcX3 (by decide) wm_159 rfl (Or.inr ⟨_, rfl⟩) dX3_add_100 e2 ?_
  refine tj_iload_n ok 3 dX3_add_103 rfl rfl ?_
  refine tj_iconst (v := 1) ok dX3_add_104 (by decide) ?_
  refine tj_isub ok dX3_add_105 ?_
  refine tj_iaload ok dX3_add_106 e3 ?_
  refine tj_iastore ok dX3_add_107 e4 ?_
  refine tj_iinc (lv' := [(0, .inr (.inr (a0))), (1, .inl (a1)), (2, .inl (a2)), (3, .inl (a3 + (-1 : Int32)))]) ok 3 dX3_add_108 rfl (rfl) (by decide) rfl ?_
  refine tj_goto (tgt := 89) ok dX3_add_111 (by decide) ?_
  exact J.2 X g K ok nmx lev hK en
def b_X3_add_89 (r89 : Nat → Int32 → Int32 → Int32 → AH → Option (AH)) (a0 : Nat) (a1 : Int32) (a2 : Int32) (a3 : Int32) (h : AH) : Option (AH) :=
  if a3 ≤ a2 then b_X3_add_114 a0 a1 a2 h else b_X3_add_94 r89 a0 a1 a2 a3 h
set_option maxHeartbeats 4000000 in
set_option maxRecDepth 100000 in
theorem q_X3_add_89 {hE : AH} {r89 : Nat → Int32 → Int32 → Int32 → AH → Option (AH)} (hr89 : ∀ (b0 : Nat) (b1 : Int32) (b2 : Int32) (b3 : Int32) (h : AH), r89 b0 b1 b2 b3 h = some hE → JD cX3_add 4 RX3 "add" none (3) 89 [(0, .inr (.inr (b0))), (1, .inl (b1)), (2, .inl (b2)), (3, .inl (b3))] [] h hE none) {a0 : Nat} {a1 : Int32} {a2 : Int32} {a3 : Int32} {h : AH} (hf : b_X3_add_89 r89 a0 a1 a2 a3 h = some hE) : JD cX3_add 4 RX3 "add" none (3) 89 [(0, .inr (.inr (a0))), (1, .inl (a1)), (2, .inl (a2)), (3, .inl (a3))] [] h hE none := by
  unfold b_X3_add_89 at hf
  have mE : hp_n h ≤ hp_n hE ∧ hp_s h ≤ hp_s hE := by
    by_cases hc : a3 ≤ a2
    · rw [if_pos hc] at hf; exact (q_X3_add_114 hf).1
    · rw [if_neg hc] at hf; exact (q_X3_add_94 hr89 hf).1
  refine ⟨by omega, fun X g K ok nmx lev hK en => ?_⟩
  refine tj_iload_n ok 3 dX3_add_89 rfl rfl ?_
  refine tj_iload_n ok 2 dX3_add_90 rfl rfl ?_
  refine tj_icmp_le (tgt := 114) ok dX3_add_91 (by decide) (fun hc => ?_) (fun hc => ?_)
  · rw [if_pos hc] at hf
    refine tj_sub (lv' := [(0, .inr (.inr (a0))), (1, .inl (a1)), (2, .inl (a2))]) [0, 1, 2] rfl ?_
    exact (q_X3_add_114 hf).2 X g K ok nmx lev hK en
  · rw [if_neg hc] at hf
    exact (q_X3_add_94 hr89 hf).2 X g K ok nmx lev hK en
def l_X3_add_89 : Nat → Nat → Int32 → Int32 → Int32 → AH → Option (AH)
  | 0 => fun _ _ _ _ _ => none
  | n + 1 => fun a0 a1 a2 a3 h => b_X3_add_89 (l_X3_add_89 n) a0 a1 a2 a3 h
theorem ql_X3_add_89 {n : Nat} {a0 : Nat} {a1 : Int32} {a2 : Int32} {a3 : Int32} {h hE : AH} (hf : l_X3_add_89 n a0 a1 a2 a3 h = some hE) : JD cX3_add 4 RX3 "add" none (3) 89 [(0, .inr (.inr (a0))), (1, .inl (a1)), (2, .inl (a2)), (3, .inl (a3))] [] h hE none := by
  induction n generalizing a0 a1 a2 a3 h with
  | zero => cases hf
  | succ n ih => exact q_X3_add_89 (fun _ _ _ _ _ hf => ih hf) hf
def b_X3_add_84 (a0 : Nat) (a1 : Int32) (a2 : Int32) (h : AH) : Option (AH) :=
  (g_i h a0 3 1).bind fun x1 => l_X3_add_89 fu_ a0 a1 a2 x1 h
set_option maxHeartbeats 4000000 in
set_option maxRecDepth 100000 in
theorem q_X3_add_84 {a0 : Nat} {a1 : Int32} {a2 : Int32} {h hE : AH} (hf : b_X3_add_84 a0 a1 a2 h = some hE) : JD cX3_add 4 RX3 "add" none (3) 84 [(0, .inr (.inr (a0))), (1, .inl (a1)), (2, .inl (a2))] [] h hE none := by
  unfold b_X3_add_84 at hf
  obtain ⟨x1, e1, hf⟩ := bnd hf
  have J := ql_X3_add_89 hf
  have mE := J.1
  refine ⟨by omega, fun X g K ok nmx lev hK en => ?_⟩
  refine tj_aload_n ok 0 dX3_add_84 rfl rfl ?_
  refine tj_getI (k := 1) ok fcX3 (by decide) wm_160 rfl (Or.inl rfl) dX3_add_85 e1 ?_
  refine tj_istore_n (lv' := [(0, .inr (.inr (a0))), (1, .inl (a1)), (2, .inl (a2)), (3, .inl (x1))]) ok dX3_add_88 rfl (by decide) rfl ?_
  exact J.2 X g K ok nmx lev hK en
def b_X3_add_72 (a0 : Nat) (a1 : Int32) (a2 : Int32) (h : AH) : Option (AH) :=
  (g_i h a0 3 1).bind fun x1 => (g_r h a0 3 0).bind fun x2 => (al_n h x2).bind fun x3 => if x3 ≤ x1 then b_X3_add_131 h else b_X3_add_84 a0 a1 a2 h
set_option maxHeartbeats 4000000 in
set_option maxRecDepth 100000 in
theorem q_X3_add_72 {a0 : Nat} {a1 : Int32} {a2 : Int32} {h hE : AH} (hf : b_X3_add_72 a0 a1 a2 h = some hE) : JD cX3_add 4 RX3 "add" none (3) 72 [(0, .inr (.inr (a0))), (1, .inl (a1)), (2, .inl (a2))] [] h hE none := by
  unfold b_X3_add_72 at hf
  obtain ⟨x1, e1, hf⟩ := bnd hf
  obtain ⟨x2, e2, hf⟩ := bnd hf
  obtain ⟨x3, e3, hf⟩ := bnd hf
  have mE : hp_n h ≤ hp_n hE ∧ hp_s h ≤ hp_s hE := by
    by_cases hc : x3 ≤ x1
    · rw [if_pos hc] at hf; exact (q_X3_add_131 hf).1
    · rw [if_neg hc] at hf; exact (q_X3_add_84 hf).1
  refine ⟨by omega, fun X g K ok nmx lev hK en => ?_⟩
  refine tj_aload_n ok 0 dX3_add_72 rfl rfl ?_
  refine tj_getI (k := 1) ok fcX3 (by decide) wm_160 rfl (Or.inl rfl) dX3_add_73 e1 ?_
  refine tj_aload_n ok 0 dX3_add_76 rfl rfl ?_
  refine tj_getR (k := 0) ok fcX3 (by decide) wm_159 rfl (Or.inr ⟨_, rfl⟩) dX3_add_77 e2 ?_
  refine tj_alen ok dX3_add_80 e3 ?_
  refine tj_icmp_ge (tgt := 131) ok dX3_add_81 (by decide) (fun hc => ?_) (fun hc => ?_)
  · rw [if_pos hc] at hf
    refine tj_sub (lv' := []) [] rfl ?_
    exact (q_X3_add_131 hf).2 X g K ok nmx lev hK en
  · rw [if_neg hc] at hf
    exact (q_X3_add_84 hf).2 X g K ok nmx lev hK en
def b_X3_add_54 (a0 : Nat) (a1 : Int32) (a2 : Int32) (h : AH) : Option (AH) :=
  (g_r h a0 3 0).bind fun x1 => (g_r h a0 3 0).bind fun x2 => (al_n h x2).bind fun x3 => (f_J7_copyOf_59c91 x1 ((2 : Int32) * x3) h).bind fun q4 => (p_r q4.2 a0 3 0 q4.1).bind fun h5 => b_X3_add_72 a0 a1 a2 h5
set_option maxHeartbeats 4000000 in
set_option maxRecDepth 100000 in
theorem q_X3_add_54 {a0 : Nat} {a1 : Int32} {a2 : Int32} {h hE : AH} (hf : b_X3_add_54 a0 a1 a2 h = some hE) : JD cX3_add 4 RX3 "add" none (3) 54 [(0, .inr (.inr (a0))), (1, .inl (a1)), (2, .inl (a2))] [] h hE none := by
  unfold b_X3_add_54 at hf
  obtain ⟨x1, e1, hf⟩ := bnd hf
  obtain ⟨x2, e2, hf⟩ := bnd hf
  obtain ⟨x3, e3, hf⟩ := bnd hf
  obtain ⟨⟨x4, h4⟩, e4, hf⟩ := bnd hf
  try dsimp only at hf
  have k4 := c_J7_copyOf_59c91 e4
  have m4 := (k4 default_g).1
  obtain ⟨h5, e5, hf⟩ := bnd hf
  have m5 := nn_pr e5
  have J := q_X3_add_72 hf
  have mE := J.1
  refine ⟨by omega, fun X g K ok nmx lev hK en => ?_⟩
  refine tj_aload_n ok 0 dX3_add_54 rfl rfl ?_
  refine tj_aload_n ok 0 dX3_add_55 rfl rfl ?_
  refine tj_getR (k := 0) ok fcX3 (by decide) wm_159 rfl (Or.inr ⟨_, rfl⟩) dX3_add_56 e1 ?_
  refine tj_iconst (v := 2) ok dX3_add_59 (by decide) ?_
  refine tj_aload_n ok 0 dX3_add_60 rfl rfl ?_
  refine tj_getR (k := 0) ok fcX3 (by decide) wm_159 rfl (Or.inr ⟨_, rfl⟩) dX3_add_61 e2 ?_
  refine tj_alen ok dX3_add_64 e3 ?_
  refine tj_imul ok dX3_add_65 ?_
  refine tj_callS (rest := ([.inr (.inr (a0))] : List TV).map (vl g)) (as := [.inr (.inr (x1)), .inl ((2 : Int32) * x3)]) ok lev (by omega) (k4 g) (CaX.of en (by omega)) kn_J7_copyOf_59c91 wm_233 wm_234 (rs_ok (Nat.le_of_ble_eq_true rfl)) rfl rfl dX3_add_66 ?_
  refine tj_putR (k := 0) ok fcX3 (by decide) wm_159 rfl (Or.inl rfl) (Or.inr ⟨_, rfl⟩) dX3_add_69 e5 ?_
  exact J.2 X g K ok nmx lev hK en
def b_X3_add_44 (a0 : Nat) (a1 : Int32) (a2 : Int32) (h : AH) : Option (AH) :=
  (g_r h a0 3 0).bind fun x1 => (al_n h x1).bind fun x2 => if (65536 : Int32) ≤ x2 then b_X3_add_72 a0 a1 a2 h else b_X3_add_54 a0 a1 a2 h
set_option maxHeartbeats 4000000 in
set_option maxRecDepth 100000 in
theorem q_X3_add_44 {a0 : Nat} {a1 : Int32} {a2 : Int32} {h hE : AH} (hf : b_X3_add_44 a0 a1 a2 h = some hE) : JD cX3_add 4 RX3 "add" none (3) 44 [(0, .inr (.inr (a0))), (1, .inl (a1)), (2, .inl (a2))] [] h hE none := by
  unfold b_X3_add_44 at hf
  obtain ⟨x1, e1, hf⟩ := bnd hf
  obtain ⟨x2, e2, hf⟩ := bnd hf
  have mE : hp_n h ≤ hp_n hE ∧ hp_s h ≤ hp_s hE := by
    by_cases hc : (65536 : Int32) ≤ x2
    · rw [if_pos hc] at hf; exact (q_X3_add_72 hf).1
    · rw [if_neg hc] at hf; exact (q_X3_add_54 hf).1
  refine ⟨by omega, fun X g K ok nmx lev hK en => ?_⟩
  refine tj_aload_n ok 0 dX3_add_44 rfl rfl ?_
  refine tj_getR (k := 0) ok fcX3 (by decide) wm_159 rfl (Or.inr ⟨_, rfl⟩) dX3_add_45 e1 ?_
  refine tj_alen ok dX3_add_48 e2 ?_
  refine tj_ldc (v := 65536) ok dX3_add_49 wm_378 ?_
  refine tj_icmp_ge (tgt := 72) ok dX3_add_51 (by decide) (fun hc => ?_) (fun hc => ?_)
  · rw [if_pos hc] at hf
    exact (q_X3_add_72 hf).2 X g K ok nmx lev hK en
  · rw [if_neg hc] at hf
    exact (q_X3_add_54 hf).2 X g K ok nmx lev hK en
def b_X3_add_32 (a0 : Nat) (a1 : Int32) (a2 : Int32) (h : AH) : Option (AH) :=
  (g_i h a0 3 1).bind fun x1 => (g_r h a0 3 0).bind fun x2 => (al_n h x2).bind fun x3 => if x1 < x3 then b_X3_add_72 a0 a1 a2 h else b_X3_add_44 a0 a1 a2 h
set_option maxHeartbeats 4000000 in
set_option maxRecDepth 100000 in
theorem q_X3_add_32 {a0 : Nat} {a1 : Int32} {a2 : Int32} {h hE : AH} (hf : b_X3_add_32 a0 a1 a2 h = some hE) : JD cX3_add 4 RX3 "add" none (3) 32 [(0, .inr (.inr (a0))), (1, .inl (a1)), (2, .inl (a2))] [] h hE none := by
  unfold b_X3_add_32 at hf
  obtain ⟨x1, e1, hf⟩ := bnd hf
  obtain ⟨x2, e2, hf⟩ := bnd hf
  obtain ⟨x3, e3, hf⟩ := bnd hf
  have mE : hp_n h ≤ hp_n hE ∧ hp_s h ≤ hp_s hE := by
    by_cases hc : x1 < x3
    · rw [if_pos hc] at hf; exact (q_X3_add_72 hf).1
    · rw [if_neg hc] at hf; exact (q_X3_add_44 hf).1
  refine ⟨by omega, fun X g K ok nmx lev hK en => ?_⟩
  refine tj_aload_n ok 0 dX3_add_32 rfl rfl ?_
  refine tj_getI (k := 1) ok fcX3 (by decide) wm_160 rfl (Or.inl rfl) dX3_add_33 e1 ?_
  refine tj_aload_n ok 0 dX3_add_36 rfl rfl ?_
  refine tj_getR (k := 0) ok fcX3 (by decide) wm_159 rfl (Or.inr ⟨_, rfl⟩) dX3_add_37 e2 ?_
  refine tj_alen ok dX3_add_40 e3 ?_
  refine tj_icmp_lt (tgt := 72) ok dX3_add_41 (by decide) (fun hc => ?_) (fun hc => ?_)
  · rw [if_pos hc] at hf
    exact (q_X3_add_72 hf).2 X g K ok nmx lev hK en
  · rw [if_neg hc] at hf
    exact (q_X3_add_44 hf).2 X g K ok nmx lev hK en
def b_X3_add_31  (h : AH) : Option (AH) :=
  some h
set_option maxHeartbeats 4000000 in
set_option maxRecDepth 100000 in
theorem q_X3_add_31 {h hE : AH} (hf : b_X3_add_31  h = some hE) : JD cX3_add 4 RX3 "add" none (3) 31 [] [] h hE none := by
  unfold b_X3_add_31 at hf
  have hh := Option.some.inj hf
  subst hh
  have mE : hp_n h ≤ hp_n h ∧ hp_s h ≤ hp_s h := ⟨Nat.le_refl _, Nat.le_refl _⟩
  refine ⟨by omega, fun X g K ok nmx lev hK en => ?_⟩
  exact tj_return ok en dX3_add_31
def b_X3_add_21 (a0 : Nat) (a1 : Int32) (a2 : Int32) (h : AH) : Option (AH) :=
  (g_r h a0 3 0).bind fun x1 => (l_i h x1 a2).bind fun x2 => if x2 = a1 then b_X3_add_31 h else b_X3_add_32 a0 a1 a2 h
set_option maxHeartbeats 4000000 in
set_option maxRecDepth 100000 in
theorem q_X3_add_21 {a0 : Nat} {a1 : Int32} {a2 : Int32} {h hE : AH} (hf : b_X3_add_21 a0 a1 a2 h = some hE) : JD cX3_add 4 RX3 "add" none (3) 21 [(0, .inr (.inr (a0))), (1, .inl (a1)), (2, .inl (a2))] [] h hE none := by
  unfold b_X3_add_21 at hf
  obtain ⟨x1, e1, hf⟩ := bnd hf
  obtain ⟨x2, e2, hf⟩ := bnd hf
  have mE : hp_n h ≤ hp_n hE ∧ hp_s h ≤ hp_s hE := by
    by_cases hc : x2 = a1
    · rw [if_pos hc] at hf; exact (q_X3_add_31 hf).1
    · rw [if_neg hc] at hf; exact (q_X3_add_32 hf).1
  refine ⟨by omega, fun X g K ok nmx lev hK en => ?_⟩
  refine tj_aload_n ok 0 dX3_add_21 rfl rfl ?_
  refine tj_getR (k := 0) ok fcX3 (by decide) wm_159 rfl (Or.inr ⟨_, rfl⟩) dX3_add_22 e1 ?_
  refine tj_iload_n ok 2 dX3_add_25 rfl rfl ?_
  refine tj_iaload ok dX3_add_26 e2 ?_
  refine tj_iload_n ok 1 dX3_add_27 rfl rfl ?_
  refine tj_icmp_ne (tgt := 32) ok dX3_add_28 (by decide) (fun hc => ?_) (fun hc => ?_)
  · rw [if_neg hc] at hf
    exact (q_X3_add_32 hf).2 X g K ok nmx lev hK en
  · rw [if_pos hc] at hf
    refine tj_sub (lv' := []) [] rfl ?_
    exact (q_X3_add_31 hf).2 X g K ok nmx lev hK en
def b_X3_add_0 (a0 : Nat) (a1 : Int32) (h : AH) : Option (AH) :=
  (g_r h a0 3 0).bind fun x1 => (g_i h a0 3 1).bind fun x2 => (f_X3_countBelow x1 x2 a1 h).bind fun q3 => (g_i q3.2 a0 3 1).bind fun x4 => if x4 ≤ q3.1 then b_X3_add_32 a0 a1 q3.1 q3.2 else b_X3_add_21 a0 a1 q3.1 q3.2
set_option maxHeartbeats 4000000 in
set_option maxRecDepth 100000 in
theorem q_X3_add_0 {a0 : Nat} {a1 : Int32} {h hE : AH} (hf : b_X3_add_0 a0 a1 h = some hE) : JD cX3_add 4 RX3 "add" none (3) 0 [(0, .inr (.inr (a0))), (1, .inl (a1))] [] h hE none := by
  unfold b_X3_add_0 at hf
  obtain ⟨x1, e1, hf⟩ := bnd hf
  obtain ⟨x2, e2, hf⟩ := bnd hf
  obtain ⟨⟨x3, h3⟩, e3, hf⟩ := bnd hf
  try dsimp only at hf
  have k3 := c_X3_countBelow e3
  have m3 := (k3 default_g).1
  obtain ⟨x4, e4, hf⟩ := bnd hf
  have mE : hp_n h3 ≤ hp_n hE ∧ hp_s h3 ≤ hp_s hE := by
    by_cases hc : x4 ≤ x3
    · rw [if_pos hc] at hf; exact (q_X3_add_32 hf).1
    · rw [if_neg hc] at hf; exact (q_X3_add_21 hf).1
  refine ⟨by omega, fun X g K ok nmx lev hK en => ?_⟩
  refine tj_aload_n ok 0 dX3_add_0 rfl rfl ?_
  refine tj_getR (k := 0) ok fcX3 (by decide) wm_159 rfl (Or.inr ⟨_, rfl⟩) dX3_add_1 e1 ?_
  refine tj_aload_n ok 0 dX3_add_4 rfl rfl ?_
  refine tj_getI (k := 1) ok fcX3 (by decide) wm_160 rfl (Or.inl rfl) dX3_add_5 e2 ?_
  refine tj_iload_n ok 1 dX3_add_8 rfl rfl ?_
  refine tj_callS (rest := ([] : List TV).map (vl g)) (as := [.inr (.inr (x1)), .inl (x2), .inl (a1)]) ok lev (by omega) (k3 g) (CaX.of en (by omega)) kn_X3_countBelow wm_379 wm_380 (rs_ok (Nat.le_of_ble_eq_true rfl)) rfl rfl dX3_add_9 ?_
  refine tj_istore_n (lv' := [(0, .inr (.inr (a0))), (1, .inl (a1)), (2, .inl (x3))]) ok dX3_add_12 rfl (by decide) rfl ?_
  refine tj_iload_n ok 2 dX3_add_13 rfl rfl ?_
  refine tj_aload_n ok 0 dX3_add_14 rfl rfl ?_
  refine tj_getI (k := 1) ok fcX3 (by decide) wm_160 rfl (Or.inl rfl) dX3_add_15 e4 ?_
  refine tj_icmp_ge (tgt := 32) ok dX3_add_18 (by decide) (fun hc => ?_) (fun hc => ?_)
  · rw [if_pos hc] at hf
    exact (q_X3_add_32 hf).2 X g K ok nmx lev hK en
  · rw [if_neg hc] at hf
    exact (q_X3_add_21 hf).2 X g K ok nmx lev hK en
def f_X3_add (a0 : Nat) (a1 : Int32) (h : AH) : Option (AH) := b_X3_add_0  a0 a1 h
theorem c_X3_add {a0 : Nat} {a1 : Int32} {h hE : AH} (hf : f_X3_add a0 a1 h = some hE) : ∀ g : GT, CM g (3) yX3_add cX3_add 4 none h [.inr (.inr (a0)), .inl (a1)] hE none :=
  CM.ofJ (by decide) (by show _ ≤ 4; exact Nat.le_of_ble_eq_true rfl) (q_X3_add_0 hf)
/-! ===== LitmusHouse$Outcomes.holds([II)Z ===== -/
def b_X3_holds_26 (s0 : Int32) (h : AH) : Option (Int32 × AH) :=
  ok_z s0 h
set_option maxHeartbeats 4000000 in
set_option maxRecDepth 100000 in
theorem q_X3_holds_26 {s0 : Int32} {h hE : AH} {v : Int32} (hf : b_X3_holds_26 s0 h = some (v, hE)) : JD cX3_holds 3 RX3 "holds" (some .boolean) (3) 26 [] [.inl (s0)] h hE (some (.inl (v))) := by
  unfold b_X3_holds_26 at hf
  have mE : hp_n h ≤ hp_n hE ∧ hp_s h ≤ hp_s hE := by obtain ⟨-, q⟩ := of_if hf; cases q; exact ⟨Nat.le_refl _, Nat.le_refl _⟩
  refine ⟨by omega, fun X g K ok nmx lev hK en => ?_⟩
  exact tj_zreturn ok hf en dX3_holds_26
def b_X3_holds_25  (h : AH) : Option (Int32 × AH) :=
  b_X3_holds_26 (0 : Int32) h
set_option maxHeartbeats 4000000 in
set_option maxRecDepth 100000 in
theorem q_X3_holds_25 {h hE : AH} {v : Int32} (hf : b_X3_holds_25  h = some (v, hE)) : JD cX3_holds 3 RX3 "holds" (some .boolean) (3) 25 [] [] h hE (some (.inl (v))) := by
  unfold b_X3_holds_25 at hf
  have J := q_X3_holds_26 hf
  have mE := J.1
  refine ⟨by omega, fun X g K ok nmx lev hK en => ?_⟩
  refine tj_iconst (v := 0) ok dX3_holds_25 (by decide) ?_
  exact J.2 X g K ok nmx lev hK en
def b_X3_holds_21  (h : AH) : Option (Int32 × AH) :=
  b_X3_holds_26 (1 : Int32) h
set_option maxHeartbeats 4000000 in
set_option maxRecDepth 100000 in
theorem q_X3_holds_21 {h hE : AH} {v : Int32} (hf : b_X3_holds_21  h = some (v, hE)) : JD cX3_holds 3 RX3 "holds" (some .boolean) (3) 21 [] [] h hE (some (.inl (v))) := by
  unfold b_X3_holds_21 at hf
  have J := q_X3_holds_26 hf
  have mE := J.1
  refine ⟨by omega, fun X g K ok nmx lev hK en => ?_⟩
  refine tj_iconst (v := 1) ok dX3_holds_21 (by decide) ?_
  refine tj_goto (tgt := 26) ok dX3_holds_22 (by decide) ?_
  exact J.2 X g K ok nmx lev hK en
def b_X3_holds_14 (a0 : Nat) (a1 : Int32) (a2 : Int32) (h : AH) : Option (Int32 × AH) :=
  (l_i h a0 a2).bind fun x1 => if x1 = a1 then b_X3_holds_21 h else b_X3_holds_25 h
set_option maxHeartbeats 4000000 in
set_option maxRecDepth 100000 in
theorem q_X3_holds_14 {a0 : Nat} {a1 : Int32} {a2 : Int32} {h hE : AH} {v : Int32} (hf : b_X3_holds_14 a0 a1 a2 h = some (v, hE)) : JD cX3_holds 3 RX3 "holds" (some .boolean) (3) 14 [(0, .inr (.inr (a0))), (1, .inl (a1)), (2, .inl (a2))] [] h hE (some (.inl (v))) := by
  unfold b_X3_holds_14 at hf
  obtain ⟨x1, e1, hf⟩ := bnd hf
  have mE : hp_n h ≤ hp_n hE ∧ hp_s h ≤ hp_s hE := by
    by_cases hc : x1 = a1
    · rw [if_pos hc] at hf; exact (q_X3_holds_21 hf).1
    · rw [if_neg hc] at hf; exact (q_X3_holds_25 hf).1
  refine ⟨by omega, fun X g K ok nmx lev hK en => ?_⟩
  refine tj_aload_n ok 0 dX3_holds_14 rfl rfl ?_
  refine tj_iload_n ok 2 dX3_holds_15 rfl rfl ?_
  refine tj_iaload ok dX3_holds_16 e1 ?_
  refine tj_iload_n ok 1 dX3_holds_17 rfl rfl ?_
  refine tj_icmp_ne (tgt := 25) ok dX3_holds_18 (by decide) (fun hc => ?_) (fun hc => ?_)
  · rw [if_neg hc] at hf
    refine tj_sub (lv' := []) [] rfl ?_
    exact (q_X3_holds_25 hf).2 X g K ok nmx lev hK en
  · rw [if_pos hc] at hf
    refine tj_sub (lv' := []) [] rfl ?_
    exact (q_X3_holds_21 hf).2 X g K ok nmx lev hK en
def b_X3_holds_0 (a0 : Nat) (a1 : Int32) (h : AH) : Option (Int32 × AH) :=
  (al_n h a0).bind fun x1 => (f_X3_countBelow a0 x1 a1 h).bind fun q2 => (al_n q2.2 a0).bind fun x3 => if x3 ≤ q2.1 then b_X3_holds_25 q2.2 else b_X3_holds_14 a0 a1 q2.1 q2.2
set_option maxHeartbeats 4000000 in
set_option maxRecDepth 100000 in
theorem q_X3_holds_0 {a0 : Nat} {a1 : Int32} {h hE : AH} {v : Int32} (hf : b_X3_holds_0 a0 a1 h = some (v, hE)) : JD cX3_holds 3 RX3 "holds" (some .boolean) (3) 0 [(0, .inr (.inr (a0))), (1, .inl (a1))] [] h hE (some (.inl (v))) := by
  unfold b_X3_holds_0 at hf
  obtain ⟨x1, e1, hf⟩ := bnd hf
  obtain ⟨⟨x2, h2⟩, e2, hf⟩ := bnd hf
  try dsimp only at hf
  have k2 := c_X3_countBelow e2
  have m2 := (k2 default_g).1
  obtain ⟨x3, e3, hf⟩ := bnd hf
  have mE : hp_n h2 ≤ hp_n hE ∧ hp_s h2 ≤ hp_s hE := by
    by_cases hc : x3 ≤ x2
    · rw [if_pos hc] at hf; exact (q_X3_holds_25 hf).1
    · rw [if_neg hc] at hf; exact (q_X3_holds_14 hf).1
  refine ⟨by omega, fun X g K ok nmx lev hK en => ?_⟩
  refine tj_aload_n ok 0 dX3_holds_0 rfl rfl ?_
  refine tj_aload_n ok 0 dX3_holds_1 rfl rfl ?_
  refine tj_alen ok dX3_holds_2 e1 ?_
  refine tj_iload_n ok 1 dX3_holds_3 rfl rfl ?_
  refine tj_callS (rest := ([] : List TV).map (vl g)) (as := [.inr (.inr (a0)), .inl (x1), .inl (a1)]) ok lev (by omega) (k2 g) (CaX.of en (by omega)) kn_X3_countBelow wm_379 wm_380 (rs_ok (Nat.le_of_ble_eq_true rfl)) rfl rfl dX3_holds_4 ?_
  refine tj_istore_n (lv' := [(0, .inr (.inr (a0))), (1, .inl (a1)), (2, .inl (x2))]) ok dX3_holds_7 rfl (by decide) rfl ?_
  refine tj_iload_n ok 2 dX3_holds_8 rfl rfl ?_
  refine tj_aload_n ok 0 dX3_holds_9 rfl rfl ?_
  refine tj_alen ok dX3_holds_10 e3 ?_
  refine tj_icmp_ge (tgt := 25) ok dX3_holds_11 (by decide) (fun hc => ?_) (fun hc => ?_)
  · rw [if_pos hc] at hf
    refine tj_sub (lv' := []) [] rfl ?_
    exact (q_X3_holds_25 hf).2 X g K ok nmx lev hK en
  · rw [if_neg hc] at hf
    exact (q_X3_holds_14 hf).2 X g K ok nmx lev hK en
def f_X3_holds (a0 : Nat) (a1 : Int32) (h : AH) : Option (Int32 × AH) := b_X3_holds_0  a0 a1 h
theorem c_X3_holds {a0 : Nat} {a1 : Int32} {h hE : AH} {v : Int32} (hf : f_X3_holds a0 a1 h = some (v, hE)) : ∀ g : GT, CM g (3) yX3_holds cX3_holds 3 (some .boolean) h [.inr (.inr (a0)), .inl (a1)] hE (some (.inl (v))) :=
  CM.ofJ (by decide) (by show _ ≤ 3; exact Nat.le_of_ble_eq_true rfl) (q_X3_holds_0 hf)
/-! ===== LitmusHouse$Outcomes.valueIn(II)I ===== -/
def b_X3_valueIn_0 (a0 : Int32) (a1 : Int32) (h : AH) : Option (Int32 × AH) :=
  some ((a0 >>> (((20 : Int32) - ((4 : Int32) * a1)) &&& 31)) &&& (15 : Int32), h)
set_option maxHeartbeats 4000000 in
set_option maxRecDepth 100000 in
theorem q_X3_valueIn_0 {a0 : Int32} {a1 : Int32} {h hE : AH} {v : Int32} (hf : b_X3_valueIn_0 a0 a1 h = some (v, hE)) : JD cX3_valueIn 2 RX3 "valueIn" (some .int) (2) 0 [(0, .inl (a0)), (1, .inl (a1))] [] h hE (some (.inl (v))) := by
  unfold b_X3_valueIn_0 at hf
  obtain ⟨hv, hh⟩ := Prod.mk.inj (Option.some.inj hf)
  subst hv
  subst hh
  have mE : hp_n h ≤ hp_n h ∧ hp_s h ≤ hp_s h := ⟨Nat.le_refl _, Nat.le_refl _⟩
  refine ⟨by omega, fun X g K ok nmx lev hK en => ?_⟩
  refine tj_iload_n ok 0 dX3_valueIn_0 rfl rfl ?_
  refine tj_bipush (v := 20) ok dX3_valueIn_1 (by decide) ?_
  refine tj_iconst (v := 4) ok dX3_valueIn_3 (by decide) ?_
  refine tj_iload_n ok 1 dX3_valueIn_4 rfl rfl ?_
  refine tj_imul ok dX3_valueIn_5 ?_
  refine tj_isub ok dX3_valueIn_6 ?_
  refine tj_ishr ok dX3_valueIn_7 ?_
  refine tj_bipush (v := 15) ok dX3_valueIn_8 (by decide) ?_
  refine tj_iand ok dX3_valueIn_10 ?_
  exact tj_ireturn ok en dX3_valueIn_11
def f_X3_valueIn (a0 : Int32) (a1 : Int32) (h : AH) : Option (Int32 × AH) := b_X3_valueIn_0  a0 a1 h
theorem c_X3_valueIn {a0 : Int32} {a1 : Int32} {h hE : AH} {v : Int32} (hf : f_X3_valueIn a0 a1 h = some (v, hE)) : ∀ g : GT, CM g (2) yX3_valueIn cX3_valueIn 2 (some .int) h [.inl (a0), .inl (a1)] hE (some (.inl (v))) :=
  CM.ofJ (by decide) (by show _ ≤ 2; exact Nat.le_of_ble_eq_true rfl) (q_X3_valueIn_0 hf)
/-! ===== LitmusHouse$Outcomes.meets(I[I)Z ===== -/
def b_X3_meets_39  (h : AH) : Option (Int32 × AH) :=
  ok_z (1 : Int32) h
set_option maxHeartbeats 4000000 in
set_option maxRecDepth 100000 in
theorem q_X3_meets_39 {h hE : AH} {v : Int32} (hf : b_X3_meets_39  h = some (v, hE)) : JD cX3_meets 3 RX3 "meets" (some .boolean) (3) 39 [] [] h hE (some (.inl (v))) := by
  unfold b_X3_meets_39 at hf
  have mE : hp_n h ≤ hp_n hE ∧ hp_s h ≤ hp_s hE := by obtain ⟨-, q⟩ := of_if hf; cases q; exact ⟨Nat.le_refl _, Nat.le_refl _⟩
  refine ⟨by omega, fun X g K ok nmx lev hK en => ?_⟩
  refine tj_iconst (v := 1) ok dX3_meets_39 (by decide) ?_
  exact tj_zreturn ok hf en dX3_meets_40
def b_X3_meets_33 (r2 : Int32 → Nat → Int32 → AH → Option (Int32 × AH)) (a0 : Int32) (a1 : Nat) (a2 : Int32) (h : AH) : Option (Int32 × AH) :=
  r2 a0 a1 (a2 + (1 : Int32)) h
set_option maxHeartbeats 4000000 in
set_option maxRecDepth 100000 in
theorem q_X3_meets_33 {hE : AH} {v : Int32} {r2 : Int32 → Nat → Int32 → AH → Option (Int32 × AH)} (hr2 : ∀ (b0 : Int32) (b1 : Nat) (b2 : Int32) (h : AH), r2 b0 b1 b2 h = some (v, hE) → JD cX3_meets 3 RX3 "meets" (some .boolean) (3) 2 [(0, .inl (b0)), (1, .inr (.inr (b1))), (2, .inl (b2))] [] h hE (some (.inl (v)))) {a0 : Int32} {a1 : Nat} {a2 : Int32} {h : AH} (hf : b_X3_meets_33 r2 a0 a1 a2 h = some (v, hE)) : JD cX3_meets 3 RX3 "meets" (some .boolean) (3) 33 [(0, .inl (a0)), (1, .inr (.inr (a1))), (2, .inl (a2))] [] h hE (some (.inl (v))) := by
  unfold b_X3_meets_33 at hf
  have J := hr2 _ _ _ _ hf
  have mE := J.1
  refine ⟨by omega, fun X g K ok nmx lev hK en => ?_⟩
  refine tj_iinc (lv' := [(0, .inl (a0)), (1, .inr (.inr (a1))), (2, .inl (a2 + (1 : Int32)))]) ok 2 dX3_meets_33 rfl (rfl) (by decide) rfl ?_
  refine tj_goto (tgt := 2) ok dX3_meets_36 (by decide) ?_
  exact J.2 X g K ok nmx lev hK en
def b_X3_meets_31  (h : AH) : Option (Int32 × AH) :=
  ok_z (0 : Int32) h
set_option maxHeartbeats 4000000 in
set_option maxRecDepth 100000 in
theorem q_X3_meets_31 {h hE : AH} {v : Int32} (hf : b_X3_meets_31  h = some (v, hE)) : JD cX3_meets 3 RX3 "meets" (some .boolean) (3) 31 [] [] h hE (some (.inl (v))) := by
  unfold b_X3_meets_31 at hf
  have mE : hp_n h ≤ hp_n hE ∧ hp_s h ≤ hp_s hE := by obtain ⟨-, q⟩ := of_if hf; cases q; exact ⟨Nat.le_refl _, Nat.le_refl _⟩
  refine ⟨by omega, fun X g K ok nmx lev hK en => ?_⟩
  refine tj_iconst (v := 0) ok dX3_meets_31 (by decide) ?_
  exact tj_zreturn ok hf en dX3_meets_32
def b_X3_meets_20 (r2 : Int32 → Nat → Int32 → AH → Option (Int32 × AH)) (a0 : Int32) (a1 : Nat) (a2 : Int32) (h : AH) : Option (Int32 × AH) :=
  (l_i h a1 a2).bind fun x1 => (f_X3_valueIn a0 a2 h).bind fun q2 => if x1 = q2.1 then b_X3_meets_33 r2 a0 a1 a2 q2.2 else b_X3_meets_31 q2.2
set_option maxHeartbeats 4000000 in
set_option maxRecDepth 100000 in
theorem q_X3_meets_20 {hE : AH} {v : Int32} {r2 : Int32 → Nat → Int32 → AH → Option (Int32 × AH)} (hr2 : ∀ (b0 : Int32) (b1 : Nat) (b2 : Int32) (h : AH), r2 b0 b1 b2 h = some (v, hE) → JD cX3_meets 3 RX3 "meets" (some .boolean) (3) 2 [(0, .inl (b0)), (1, .inr (.inr (b1))), (2, .inl (b2))] [] h hE (some (.inl (v)))) {a0 : Int32} {a1 : Nat} {a2 : Int32} {h : AH} (hf : b_X3_meets_20 r2 a0 a1 a2 h = some (v, hE)) : JD cX3_meets 3 RX3 "meets" (some .boolean) (3) 20 [(0, .inl (a0)), (1, .inr (.inr (a1))), (2, .inl (a2))] [] h hE (some (.inl (v))) := by
  unfold b_X3_meets_20 at hf
  obtain ⟨x1, e1, hf⟩ := bnd hf
  obtain ⟨⟨x2, h2⟩, e2, hf⟩ := bnd hf
  try dsimp only at hf
  have k2 := c_X3_valueIn e2
  have m2 := (k2 default_g).1
  have mE : hp_n h2 ≤ hp_n hE ∧ hp_s h2 ≤ hp_s hE := by
    by_cases hc : x1 = x2
    · rw [if_pos hc] at hf; exact (q_X3_meets_33 hr2 hf).1
    · rw [if_neg hc] at hf; exact (q_X3_meets_31 hf).1
  refine ⟨by omega, fun X g K ok nmx lev hK en => ?_⟩
  refine tj_aload_n ok 1 dX3_meets_20 rfl rfl ?_
  refine tj_iload_n ok 2 dX3_meets_21 rfl rfl ?_
  refine tj_iaload ok dX3_meets_22 e1 ?_
  refine tj_iload_n ok 0 dX3_meets_23 rfl rfl ?_
  refine tj_iload_n ok 2 dX3_meets_24 rfl rfl ?_
  refine tj_callS (rest := ([.inl (x1)] : List TV).map (vl g)) (as := [.inl (a0), .inl (a2)]) ok lev (by omega) (k2 g) (CaX.of en (by omega)) kn_X3_valueIn wm_384 wm_385 (rs_ok (Nat.le_of_ble_eq_true rfl)) rfl rfl dX3_meets_25 ?_
  refine tj_icmp_eq (tgt := 33) ok dX3_meets_28 (by decide) (fun hc => ?_) (fun hc => ?_)
  · rw [if_pos hc] at hf
    exact (q_X3_meets_33 hr2 hf).2 X g K ok nmx lev hK en
  · rw [if_neg hc] at hf
    refine tj_sub (lv' := []) [] rfl ?_
    exact (q_X3_meets_31 hf).2 X g K ok nmx lev hK en
def b_X3_meets_13 (r2 : Int32 → Nat → Int32 → AH → Option (Int32 × AH)) (a0 : Int32) (a1 : Nat) (a2 : Int32) (h : AH) : Option (Int32 × AH) :=
  (l_i h a1 a2).bind fun x1 => if x1 = (-1 : Int32) then b_X3_meets_33 r2 a0 a1 a2 h else b_X3_meets_20 r2 a0 a1 a2 h
set_option maxHeartbeats 4000000 in
set_option maxRecDepth 100000 in
theorem q_X3_meets_13 {hE : AH} {v : Int32} {r2 : Int32 → Nat → Int32 → AH → Option (Int32 × AH)} (hr2 : ∀ (b0 : Int32) (b1 : Nat) (b2 : Int32) (h : AH), r2 b0 b1 b2 h = some (v, hE) → JD cX3_meets 3 RX3 "meets" (some .boolean) (3) 2 [(0, .inl (b0)), (1, .inr (.inr (b1))), (2, .inl (b2))] [] h hE (some (.inl (v)))) {a0 : Int32} {a1 : Nat} {a2 : Int32} {h : AH} (hf : b_X3_meets_13 r2 a0 a1 a2 h = some (v, hE)) : JD cX3_meets 3 RX3 "meets" (some .boolean) (3) 13 [(0, .inl (a0)), (1, .inr (.inr (a1))), (2, .inl (a2))] [] h hE (some (.inl (v))) := by
  unfold b_X3_meets_13 at hf
  obtain ⟨x1, e1, hf⟩ := bnd hf
  have mE : hp_n h ≤ hp_n hE ∧ hp_s h ≤ hp_s hE := by
    by_cases hc : x1 = (-1 : Int32)
    · rw [if_pos hc] at hf; exact (q_X3_meets_33 hr2 hf).1
    · rw [if_neg hc] at hf; exact (q_X3_meets_20 hr2 hf).1
  refine ⟨by omega, fun X g K ok nmx lev hK en => ?_⟩
  refine tj_aload_n ok 1 dX3_meets_13 rfl rfl ?_
  refine tj_iload_n ok 2 dX3_meets_14 rfl rfl ?_
  refine tj_iaload ok dX3_meets_15 e1 ?_
  refine tj_iconst (v := -1) ok dX3_meets_16 (by decide) ?_
  refine tj_icmp_eq (tgt := 33) ok dX3_meets_17 (by decide) (fun hc => ?_) (fun hc => ?_)
  · rw [if_pos hc] at hf
    exact (q_X3_meets_33 hr2 hf).2 X g K ok nmx lev hK en
  · rw [if_neg hc] at hf
    exact (q_X3_meets_20 hr2 hf).2 X g K ok nmx lev hK en
def b_X3_meets_7 (r2 : Int32 → Nat → Int32 → AH → Option (Int32 × AH)) (a0 : Int32) (a1 : Nat) (a2 : Int32) (h : AH) : Option (Int32 × AH) :=
  (al_n h a1).bind fun x1 => if x1 ≤ a2 then b_X3_meets_39 h else b_X3_meets_13 r2 a0 a1 a2 h
set_option maxHeartbeats 4000000 in
set_option maxRecDepth 100000 in
theorem q_X3_meets_7 {hE : AH} {v : Int32} {r2 : Int32 → Nat → Int32 → AH → Option (Int32 × AH)} (hr2 : ∀ (b0 : Int32) (b1 : Nat) (b2 : Int32) (h : AH), r2 b0 b1 b2 h = some (v, hE) → JD cX3_meets 3 RX3 "meets" (some .boolean) (3) 2 [(0, .inl (b0)), (1, .inr (.inr (b1))), (2, .inl (b2))] [] h hE (some (.inl (v)))) {a0 : Int32} {a1 : Nat} {a2 : Int32} {h : AH} (hf : b_X3_meets_7 r2 a0 a1 a2 h = some (v, hE)) : JD cX3_meets 3 RX3 "meets" (some .boolean) (3) 7 [(0, .inl (a0)), (1, .inr (.inr (a1))), (2, .inl (a2))] [] h hE (some (.inl (v))) := by
  unfold b_X3_meets_7 at hf
  obtain ⟨x1, e1, hf⟩ := bnd hf
  have mE : hp_n h ≤ hp_n hE ∧ hp_s h ≤ hp_s hE := by
    by_cases hc : x1 ≤ a2
    · rw [if_pos hc] at hf; exact (q_X3_meets_39 hf).1
    · rw [if_neg hc] at hf; exact (q_X3_meets_13 hr2 hf).1
  refine ⟨by omega, fun X g K ok nmx lev hK en => ?_⟩
  refine tj_iload_n ok 2 dX3_meets_7 rfl rfl ?_
  refine tj_aload_n ok 1 dX3_meets_8 rfl rfl ?_
  refine tj_alen ok dX3_meets_9 e1 ?_
  refine tj_icmp_ge (tgt := 39) ok dX3_meets_10 (by decide) (fun hc => ?_) (fun hc => ?_)
  · rw [if_pos hc] at hf
    refine tj_sub (lv' := []) [] rfl ?_
    exact (q_X3_meets_39 hf).2 X g K ok nmx lev hK en
  · rw [if_neg hc] at hf
    exact (q_X3_meets_13 hr2 hf).2 X g K ok nmx lev hK en
def b_X3_meets_2 (r2 : Int32 → Nat → Int32 → AH → Option (Int32 × AH)) (a0 : Int32) (a1 : Nat) (a2 : Int32) (h : AH) : Option (Int32 × AH) :=
  if (5 : Int32) ≤ a2 then b_X3_meets_39 h else b_X3_meets_7 r2 a0 a1 a2 h
set_option maxHeartbeats 4000000 in
set_option maxRecDepth 100000 in
theorem q_X3_meets_2 {hE : AH} {v : Int32} {r2 : Int32 → Nat → Int32 → AH → Option (Int32 × AH)} (hr2 : ∀ (b0 : Int32) (b1 : Nat) (b2 : Int32) (h : AH), r2 b0 b1 b2 h = some (v, hE) → JD cX3_meets 3 RX3 "meets" (some .boolean) (3) 2 [(0, .inl (b0)), (1, .inr (.inr (b1))), (2, .inl (b2))] [] h hE (some (.inl (v)))) {a0 : Int32} {a1 : Nat} {a2 : Int32} {h : AH} (hf : b_X3_meets_2 r2 a0 a1 a2 h = some (v, hE)) : JD cX3_meets 3 RX3 "meets" (some .boolean) (3) 2 [(0, .inl (a0)), (1, .inr (.inr (a1))), (2, .inl (a2))] [] h hE (some (.inl (v))) := by
  unfold b_X3_meets_2 at hf
  have mE : hp_n h ≤ hp_n hE ∧ hp_s h ≤ hp_s hE := by
    by_cases hc : (5 : Int32) ≤ a2
    · rw [if_pos hc] at hf; exact (q_X3_meets_39 hf).1
    · rw [if_neg hc] at hf; exact (q_X3_meets_7 hr2 hf).1
  refine ⟨by omega, fun X g K ok nmx lev hK en => ?_⟩
  refine tj_iload_n ok 2 dX3_meets_2 rfl rfl ?_
  refine tj_iconst (v := 5) ok dX3_meets_3 (by decide) ?_
  refine tj_icmp_ge (tgt := 39) ok dX3_meets_4 (by decide) (fun hc => ?_) (fun hc => ?_)
  · rw [if_pos hc] at hf
    refine tj_sub (lv' := []) [] rfl ?_
    exact (q_X3_meets_39 hf).2 X g K ok nmx lev hK en
  · rw [if_neg hc] at hf
    exact (q_X3_meets_7 hr2 hf).2 X g K ok nmx lev hK en
def l_X3_meets_2 : Nat → Int32 → Nat → Int32 → AH → Option (Int32 × AH)
  | 0 => fun _ _ _ _ => none
  | n + 1 => fun a0 a1 a2 h => b_X3_meets_2 (l_X3_meets_2 n) a0 a1 a2 h
theorem ql_X3_meets_2 {n : Nat} {a0 : Int32} {a1 : Nat} {a2 : Int32} {h hE : AH} {v : Int32} (hf : l_X3_meets_2 n a0 a1 a2 h = some (v, hE)) : JD cX3_meets 3 RX3 "meets" (some .boolean) (3) 2 [(0, .inl (a0)), (1, .inr (.inr (a1))), (2, .inl (a2))] [] h hE (some (.inl (v))) := by
  induction n generalizing a0 a1 a2 h with
  | zero => cases hf
  | succ n ih => exact q_X3_meets_2 (fun _ _ _ _ hf => ih hf) hf
def b_X3_meets_0 (a0 : Int32) (a1 : Nat) (h : AH) : Option (Int32 × AH) :=
  l_X3_meets_2 fu_ a0 a1 (0 : Int32) h
set_option maxHeartbeats 4000000 in
set_option maxRecDepth 100000 in
theorem q_X3_meets_0 {a0 : Int32} {a1 : Nat} {h hE : AH} {v : Int32} (hf : b_X3_meets_0 a0 a1 h = some (v, hE)) : JD cX3_meets 3 RX3 "meets" (some .boolean) (3) 0 [(0, .inl (a0)), (1, .inr (.inr (a1)))] [] h hE (some (.inl (v))) := by
  unfold b_X3_meets_0 at hf
  have J := ql_X3_meets_2 hf
  have mE := J.1
  refine ⟨by omega, fun X g K ok nmx lev hK en => ?_⟩
  refine tj_iconst (v := 0) ok dX3_meets_0 (by decide) ?_
  refine tj_istore_n (lv' := [(0, .inl (a0)), (1, .inr (.inr (a1))), (2, .inl ((0 : Int32)))]) ok dX3_meets_1 rfl (by decide) rfl ?_
  exact J.2 X g K ok nmx lev hK en
def f_X3_meets (a0 : Int32) (a1 : Nat) (h : AH) : Option (Int32 × AH) := b_X3_meets_0  a0 a1 h
theorem c_X3_meets {a0 : Int32} {a1 : Nat} {h hE : AH} {v : Int32} (hf : f_X3_meets a0 a1 h = some (v, hE)) : ∀ g : GT, CM g (3) yX3_meets cX3_meets 3 (some .boolean) h [.inl (a0), .inr (.inr (a1))] hE (some (.inl (v))) :=
  CM.ofJ (by decide) (by show _ ≤ 3; exact Nat.le_of_ble_eq_true rfl) (q_X3_meets_0 hf)
/-! ===== LitmusHouse$Outcomes.stuckIn(I)I ===== -/
def b_X3_stuckIn_0 (a0 : Int32) (h : AH) : Option (Int32 × AH) :=
  some (a0 &&& (15 : Int32), h)
set_option maxHeartbeats 4000000 in
set_option maxRecDepth 100000 in
theorem q_X3_stuckIn_0 {a0 : Int32} {h hE : AH} {v : Int32} (hf : b_X3_stuckIn_0 a0 h = some (v, hE)) : JD cX3_stuckIn 1 RX3 "stuckIn" (some .int) (2) 0 [(0, .inl (a0))] [] h hE (some (.inl (v))) := by
  unfold b_X3_stuckIn_0 at hf
  obtain ⟨hv, hh⟩ := Prod.mk.inj (Option.some.inj hf)
  subst hv
  subst hh
  have mE : hp_n h ≤ hp_n h ∧ hp_s h ≤ hp_s h := ⟨Nat.le_refl _, Nat.le_refl _⟩
  refine ⟨by omega, fun X g K ok nmx lev hK en => ?_⟩
  refine tj_iload_n ok 0 dX3_stuckIn_0 rfl rfl ?_
  refine tj_bipush (v := 15) ok dX3_stuckIn_1 (by decide) ?_
  refine tj_iand ok dX3_stuckIn_3 ?_
  exact tj_ireturn ok en dX3_stuckIn_4
def f_X3_stuckIn (a0 : Int32) (h : AH) : Option (Int32 × AH) := b_X3_stuckIn_0  a0 h
theorem c_X3_stuckIn {a0 : Int32} {h hE : AH} {v : Int32} (hf : f_X3_stuckIn a0 h = some (v, hE)) : ∀ g : GT, CM g (2) yX3_stuckIn cX3_stuckIn 1 (some .int) h [.inl (a0)] hE (some (.inl (v))) :=
  CM.ofJ (by decide) (by show _ ≤ 1; exact Nat.le_of_ble_eq_true rfl) (q_X3_stuckIn_0 hf)
