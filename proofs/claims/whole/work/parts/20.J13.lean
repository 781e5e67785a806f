theorem dJ13_bitCount_95d88_0 : decode cJ13_bitCount_95d88 0 = .ok (.lload_n 0, 1) := by decide +kernel
theorem dJ13_bitCount_95d88_1 : decode cJ13_bitCount_95d88 1 = .ok (.lload_n 0, 1) := by decide +kernel
theorem dJ13_bitCount_95d88_2 : decode cJ13_bitCount_95d88 2 = .ok (.iconst 1, 1) := by decide +kernel
theorem dJ13_bitCount_95d88_3 : decode cJ13_bitCount_95d88 3 = .ok (.lushr, 1) := by decide +kernel
theorem dJ13_bitCount_95d88_4 : decode cJ13_bitCount_95d88 4 = .ok (.ldc2_w 314, 3) := by decide +kernel
theorem dJ13_bitCount_95d88_7 : decode cJ13_bitCount_95d88 7 = .ok (.land, 1) := by decide +kernel
theorem dJ13_bitCount_95d88_8 : decode cJ13_bitCount_95d88 8 = .ok (.lsub, 1) := by decide +kernel
theorem dJ13_bitCount_95d88_9 : decode cJ13_bitCount_95d88 9 = .ok (.lstore_n 0, 1) := by decide +kernel
theorem dJ13_bitCount_95d88_10 : decode cJ13_bitCount_95d88 10 = .ok (.lload_n 0, 1) := by decide +kernel
theorem dJ13_bitCount_95d88_11 : decode cJ13_bitCount_95d88 11 = .ok (.ldc2_w 316, 3) := by decide +kernel
theorem dJ13_bitCount_95d88_14 : decode cJ13_bitCount_95d88 14 = .ok (.land, 1) := by decide +kernel
theorem dJ13_bitCount_95d88_15 : decode cJ13_bitCount_95d88 15 = .ok (.lload_n 0, 1) := by decide +kernel
theorem dJ13_bitCount_95d88_16 : decode cJ13_bitCount_95d88 16 = .ok (.iconst 2, 1) := by decide +kernel
theorem dJ13_bitCount_95d88_17 : decode cJ13_bitCount_95d88 17 = .ok (.lushr, 1) := by decide +kernel
theorem dJ13_bitCount_95d88_18 : decode cJ13_bitCount_95d88 18 = .ok (.ldc2_w 316, 3) := by decide +kernel
theorem dJ13_bitCount_95d88_21 : decode cJ13_bitCount_95d88 21 = .ok (.land, 1) := by decide +kernel
theorem dJ13_bitCount_95d88_22 : decode cJ13_bitCount_95d88 22 = .ok (.ladd, 1) := by decide +kernel
theorem dJ13_bitCount_95d88_23 : decode cJ13_bitCount_95d88 23 = .ok (.lstore_n 0, 1) := by decide +kernel
theorem dJ13_bitCount_95d88_24 : decode cJ13_bitCount_95d88 24 = .ok (.lload_n 0, 1) := by decide +kernel
theorem dJ13_bitCount_95d88_25 : decode cJ13_bitCount_95d88 25 = .ok (.lload_n 0, 1) := by decide +kernel
theorem dJ13_bitCount_95d88_26 : decode cJ13_bitCount_95d88 26 = .ok (.iconst 4, 1) := by decide +kernel
theorem dJ13_bitCount_95d88_27 : decode cJ13_bitCount_95d88 27 = .ok (.lushr, 1) := by decide +kernel
theorem dJ13_bitCount_95d88_28 : decode cJ13_bitCount_95d88 28 = .ok (.ladd, 1) := by decide +kernel
theorem dJ13_bitCount_95d88_29 : decode cJ13_bitCount_95d88 29 = .ok (.ldc2_w 318, 3) := by decide +kernel
theorem dJ13_bitCount_95d88_32 : decode cJ13_bitCount_95d88 32 = .ok (.land, 1) := by decide +kernel
theorem dJ13_bitCount_95d88_33 : decode cJ13_bitCount_95d88 33 = .ok (.lstore_n 0, 1) := by decide +kernel
theorem dJ13_bitCount_95d88_34 : decode cJ13_bitCount_95d88 34 = .ok (.lload_n 0, 1) := by decide +kernel
theorem dJ13_bitCount_95d88_35 : decode cJ13_bitCount_95d88 35 = .ok (.lload_n 0, 1) := by decide +kernel
theorem dJ13_bitCount_95d88_36 : decode cJ13_bitCount_95d88 36 = .ok (.bipush 8, 2) := by decide +kernel
theorem dJ13_bitCount_95d88_38 : decode cJ13_bitCount_95d88 38 = .ok (.lushr, 1) := by decide +kernel
theorem dJ13_bitCount_95d88_39 : decode cJ13_bitCount_95d88 39 = .ok (.ladd, 1) := by decide +kernel
theorem dJ13_bitCount_95d88_40 : decode cJ13_bitCount_95d88 40 = .ok (.lstore_n 0, 1) := by decide +kernel
theorem dJ13_bitCount_95d88_41 : decode cJ13_bitCount_95d88 41 = .ok (.lload_n 0, 1) := by decide +kernel
theorem dJ13_bitCount_95d88_42 : decode cJ13_bitCount_95d88 42 = .ok (.lload_n 0, 1) := by decide +kernel
theorem dJ13_bitCount_95d88_43 : decode cJ13_bitCount_95d88 43 = .ok (.bipush 16, 2) := by decide +kernel
theorem dJ13_bitCount_95d88_45 : decode cJ13_bitCount_95d88 45 = .ok (.lushr, 1) := by decide +kernel
theorem dJ13_bitCount_95d88_46 : decode cJ13_bitCount_95d88 46 = .ok (.ladd, 1) := by decide +kernel
theorem dJ13_bitCount_95d88_47 : decode cJ13_bitCount_95d88 47 = .ok (.lstore_n 0, 1) := by decide +kernel
theorem dJ13_bitCount_95d88_48 : decode cJ13_bitCount_95d88 48 = .ok (.lload_n 0, 1) := by decide +kernel
theorem dJ13_bitCount_95d88_49 : decode cJ13_bitCount_95d88 49 = .ok (.lload_n 0, 1) := by decide +kernel
theorem dJ13_bitCount_95d88_50 : decode cJ13_bitCount_95d88 50 = .ok (.bipush 32, 2) := by decide +kernel
theorem dJ13_bitCount_95d88_52 : decode cJ13_bitCount_95d88 52 = .ok (.lushr, 1) := by decide +kernel
theorem dJ13_bitCount_95d88_53 : decode cJ13_bitCount_95d88 53 = .ok (.ladd, 1) := by decide +kernel
theorem dJ13_bitCount_95d88_54 : decode cJ13_bitCount_95d88 54 = .ok (.lstore_n 0, 1) := by decide +kernel
theorem dJ13_bitCount_95d88_55 : decode cJ13_bitCount_95d88 55 = .ok (.lload_n 0, 1) := by decide +kernel
theorem dJ13_bitCount_95d88_56 : decode cJ13_bitCount_95d88 56 = .ok (.l2i, 1) := by decide +kernel
theorem dJ13_bitCount_95d88_57 : decode cJ13_bitCount_95d88 57 = .ok (.bipush 127, 2) := by decide +kernel
theorem dJ13_bitCount_95d88_59 : decode cJ13_bitCount_95d88 59 = .ok (.iand, 1) := by decide +kernel
theorem dJ13_bitCount_95d88_60 : decode cJ13_bitCount_95d88 60 = .ok (.ireturn, 1) := by decide +kernel
theorem dJ6_bitCount_0f7a4_0 : decode cJ6_bitCount_0f7a4 0 = .ok (.iload_n 0, 1) := by decide +kernel
theorem dJ6_bitCount_0f7a4_1 : decode cJ6_bitCount_0f7a4 1 = .ok (.iload_n 0, 1) := by decide +kernel
theorem dJ6_bitCount_0f7a4_2 : decode cJ6_bitCount_0f7a4 2 = .ok (.iconst 1, 1) := by decide +kernel
theorem dJ6_bitCount_0f7a4_3 : decode cJ6_bitCount_0f7a4 3 = .ok (.iushr, 1) := by decide +kernel
theorem dJ6_bitCount_0f7a4_4 : decode cJ6_bitCount_0f7a4 4 = .ok (.ldc_w 265, 3) := by decide +kernel
theorem dJ6_bitCount_0f7a4_7 : decode cJ6_bitCount_0f7a4 7 = .ok (.iand, 1) := by decide +kernel
theorem dJ6_bitCount_0f7a4_8 : decode cJ6_bitCount_0f7a4 8 = .ok (.isub, 1) := by decide +kernel
theorem dJ6_bitCount_0f7a4_9 : decode cJ6_bitCount_0f7a4 9 = .ok (.istore_n 0, 1) := by decide +kernel
theorem dJ6_bitCount_0f7a4_10 : decode cJ6_bitCount_0f7a4 10 = .ok (.iload_n 0, 1) := by decide +kernel
theorem dJ6_bitCount_0f7a4_11 : decode cJ6_bitCount_0f7a4 11 = .ok (.ldc_w 266, 3) := by decide +kernel
theorem dJ6_bitCount_0f7a4_14 : decode cJ6_bitCount_0f7a4 14 = .ok (.iand, 1) := by decide +kernel
theorem dJ6_bitCount_0f7a4_15 : decode cJ6_bitCount_0f7a4 15 = .ok (.iload_n 0, 1) := by decide +kernel
theorem dJ6_bitCount_0f7a4_16 : decode cJ6_bitCount_0f7a4 16 = .ok (.iconst 2, 1) := by decide +kernel
theorem dJ6_bitCount_0f7a4_17 : decode cJ6_bitCount_0f7a4 17 = .ok (.iushr, 1) := by decide +kernel
theorem dJ6_bitCount_0f7a4_18 : decode cJ6_bitCount_0f7a4 18 = .ok (.ldc_w 266, 3) := by decide +kernel
theorem dJ6_bitCount_0f7a4_21 : decode cJ6_bitCount_0f7a4 21 = .ok (.iand, 1) := by decide +kernel
theorem dJ6_bitCount_0f7a4_22 : decode cJ6_bitCount_0f7a4 22 = .ok (.iadd, 1) := by decide +kernel
theorem dJ6_bitCount_0f7a4_23 : decode cJ6_bitCount_0f7a4 23 = .ok (.istore_n 0, 1) := by decide +kernel
theorem dJ6_bitCount_0f7a4_24 : decode cJ6_bitCount_0f7a4 24 = .ok (.iload_n 0, 1) := by decide +kernel
theorem dJ6_bitCount_0f7a4_25 : decode cJ6_bitCount_0f7a4 25 = .ok (.iload_n 0, 1) := by decide +kernel
theorem dJ6_bitCount_0f7a4_26 : decode cJ6_bitCount_0f7a4 26 = .ok (.iconst 4, 1) := by decide +kernel
theorem dJ6_bitCount_0f7a4_27 : decode cJ6_bitCount_0f7a4 27 = .ok (.iushr, 1) := by decide +kernel
theorem dJ6_bitCount_0f7a4_28 : decode cJ6_bitCount_0f7a4 28 = .ok (.iadd, 1) := by decide +kernel
theorem dJ6_bitCount_0f7a4_29 : decode cJ6_bitCount_0f7a4 29 = .ok (.ldc_w 267, 3) := by decide +kernel
theorem dJ6_bitCount_0f7a4_32 : decode cJ6_bitCount_0f7a4 32 = .ok (.iand, 1) := by decide +kernel
theorem dJ6_bitCount_0f7a4_33 : decode cJ6_bitCount_0f7a4 33 = .ok (.istore_n 0, 1) := by decide +kernel
theorem dJ6_bitCount_0f7a4_34 : decode cJ6_bitCount_0f7a4 34 = .ok (.iload_n 0, 1) := by decide +kernel
theorem dJ6_bitCount_0f7a4_35 : decode cJ6_bitCount_0f7a4 35 = .ok (.iload_n 0, 1) := by decide +kernel
theorem dJ6_bitCount_0f7a4_36 : decode cJ6_bitCount_0f7a4 36 = .ok (.bipush 8, 2) := by decide +kernel
theorem dJ6_bitCount_0f7a4_38 : decode cJ6_bitCount_0f7a4 38 = .ok (.iushr, 1) := by decide +kernel
theorem dJ6_bitCount_0f7a4_39 : decode cJ6_bitCount_0f7a4 39 = .ok (.iadd, 1) := by decide +kernel
theorem dJ6_bitCount_0f7a4_40 : decode cJ6_bitCount_0f7a4 40 = .ok (.istore_n 0, 1) := by decide +kernel
theorem dJ6_bitCount_0f7a4_41 : decode cJ6_bitCount_0f7a4 41 = .ok (.iload_n 0, 1) := by decide +kernel
theorem dJ6_bitCount_0f7a4_42 : decode cJ6_bitCount_0f7a4 42 = .ok (.iload_n 0, 1) := by decide +kernel
theorem dJ6_bitCount_0f7a4_43 : decode cJ6_bitCount_0f7a4 43 = .ok (.bipush 16, 2) := by decide +kernel
theorem dJ6_bitCount_0f7a4_45 : decode cJ6_bitCount_0f7a4 45 = .ok (.iushr, 1) := by decide +kernel
theorem dJ6_bitCount_0f7a4_46 : decode cJ6_bitCount_0f7a4 46 = .ok (.iadd, 1) := by decide +kernel
theorem dJ6_bitCount_0f7a4_47 : decode cJ6_bitCount_0f7a4 47 = .ok (.istore_n 0, 1) := by decide +kernel
theorem dJ6_bitCount_0f7a4_48 : decode cJ6_bitCount_0f7a4 48 = .ok (.iload_n 0, 1) := by decide +kernel
theorem dJ6_bitCount_0f7a4_49 : decode cJ6_bitCount_0f7a4 49 = .ok (.bipush 63, 2) := by decide +kernel
theorem dJ6_bitCount_0f7a4_51 : decode cJ6_bitCount_0f7a4 51 = .ok (.iand, 1) := by decide +kernel
theorem dJ6_bitCount_0f7a4_52 : decode cJ6_bitCount_0f7a4 52 = .ok (.ireturn, 1) := by decide +kernel
theorem dJ7_copyOf_59c91_0 : decode cJ7_copyOf_59c91 0 = .ok (.iload_n 1, 1) := by decide +kernel
theorem dJ7_copyOf_59c91_1 : decode cJ7_copyOf_59c91 1 = .ok (.aload_n 0, 1) := by decide +kernel
theorem dJ7_copyOf_59c91_2 : decode cJ7_copyOf_59c91 2 = .ok (.arraylength, 1) := by decide +kernel
theorem dJ7_copyOf_59c91_3 : decode cJ7_copyOf_59c91 3 = .ok (.if_icmp .ne 11, 3) := by decide +kernel
theorem dJ7_copyOf_59c91_6 : decode cJ7_copyOf_59c91 6 = .ok (.aload_n 0, 1) := by decide +kernel
theorem dJ7_copyOf_59c91_7 : decode cJ7_copyOf_59c91 7 = .ok (.invokevirtual 316, 3) := by decide +kernel
theorem dJ7_copyOf_59c91_10 : decode cJ7_copyOf_59c91 10 = .ok (.checkcast 317, 3) := by decide +kernel
theorem dJ7_copyOf_59c91_13 : decode cJ7_copyOf_59c91 13 = .ok (.areturn, 1) := by decide +kernel
theorem dJ7_copyOf_59c91_14 : decode cJ7_copyOf_59c91 14 = .ok (.iload_n 1, 1) := by decide +kernel
theorem dJ7_copyOf_59c91_15 : decode cJ7_copyOf_59c91 15 = .ok (.newarray .int, 2) := by decide +kernel
theorem dJ7_copyOf_59c91_17 : decode cJ7_copyOf_59c91 17 = .ok (.astore_n 2, 1) := by decide +kernel
theorem dJ7_copyOf_59c91_18 : decode cJ7_copyOf_59c91 18 = .ok (.aload_n 0, 1) := by decide +kernel
theorem dJ7_copyOf_59c91_19 : decode cJ7_copyOf_59c91 19 = .ok (.iconst 0, 1) := by decide +kernel
theorem dJ7_copyOf_59c91_20 : decode cJ7_copyOf_59c91 20 = .ok (.aload_n 2, 1) := by decide +kernel
theorem dJ7_copyOf_59c91_21 : decode cJ7_copyOf_59c91 21 = .ok (.iconst 0, 1) := by decide +kernel
theorem dJ7_copyOf_59c91_22 : decode cJ7_copyOf_59c91 22 = .ok (.aload_n 0, 1) := by decide +kernel
theorem dJ7_copyOf_59c91_23 : decode cJ7_copyOf_59c91 23 = .ok (.arraylength, 1) := by decide +kernel
theorem dJ7_copyOf_59c91_24 : decode cJ7_copyOf_59c91 24 = .ok (.iload_n 1, 1) := by decide +kernel
theorem dJ7_copyOf_59c91_25 : decode cJ7_copyOf_59c91 25 = .ok (.invokestatic 304, 3) := by decide +kernel
theorem dJ7_copyOf_59c91_28 : decode cJ7_copyOf_59c91 28 = .ok (.invokestatic 150, 3) := by decide +kernel
theorem dJ7_copyOf_59c91_31 : decode cJ7_copyOf_59c91 31 = .ok (.aload_n 2, 1) := by decide +kernel
theorem dJ7_copyOf_59c91_32 : decode cJ7_copyOf_59c91 32 = .ok (.areturn, 1) := by decide +kernel
theorem dJ7_fill_53178_0 : decode cJ7_fill_53178 0 = .ok (.iconst 0, 1) := by decide +kernel
theorem dJ7_fill_53178_1 : decode cJ7_fill_53178 1 = .ok (.istore_n 2, 1) := by decide +kernel
theorem dJ7_fill_53178_2 : decode cJ7_fill_53178 2 = .ok (.aload_n 0, 1) := by decide +kernel
theorem dJ7_fill_53178_3 : decode cJ7_fill_53178 3 = .ok (.arraylength, 1) := by decide +kernel
theorem dJ7_fill_53178_4 : decode cJ7_fill_53178 4 = .ok (.istore_n 3, 1) := by decide +kernel
theorem dJ7_fill_53178_5 : decode cJ7_fill_53178 5 = .ok (.iload_n 2, 1) := by decide +kernel
theorem dJ7_fill_53178_6 : decode cJ7_fill_53178 6 = .ok (.iload_n 3, 1) := by decide +kernel
theorem dJ7_fill_53178_7 : decode cJ7_fill_53178 7 = .ok (.if_icmp .ge 13, 3) := by decide +kernel
theorem dJ7_fill_53178_10 : decode cJ7_fill_53178 10 = .ok (.aload_n 0, 1) := by decide +kernel
theorem dJ7_fill_53178_11 : decode cJ7_fill_53178 11 = .ok (.iload_n 2, 1) := by decide +kernel
theorem dJ7_fill_53178_12 : decode cJ7_fill_53178 12 = .ok (.iload_n 1, 1) := by decide +kernel
theorem dJ7_fill_53178_13 : decode cJ7_fill_53178 13 = .ok (.iastore, 1) := by decide +kernel
theorem dJ7_fill_53178_14 : decode cJ7_fill_53178 14 = .ok (.iinc 2 1, 3) := by decide +kernel
theorem dJ7_fill_53178_17 : decode cJ7_fill_53178 17 = .ok (.goto (-12), 3) := by decide +kernel
theorem dJ7_fill_53178_20 : decode cJ7_fill_53178 20 = .ok (.return_, 1) := by decide +kernel
theorem kn_J13_bitCount_95d88 : Kn yJ13_bitCount_95d88 cJ13_bitCount_95d88 2 (some .int) 1 := ⟨wm_27, wm_28, by decide +kernel, by decide⟩
theorem kn_J6_bitCount_0f7a4 : Kn yJ6_bitCount_0f7a4 cJ6_bitCount_0f7a4 1 (some .int) 1 := ⟨wm_32, wm_33, by decide +kernel, by decide⟩
theorem kn_J7_copyOf_59c91 : Kn yJ7_copyOf_59c91 cJ7_copyOf_59c91 3 (some (.array .int)) 2 := ⟨wm_37, wm_38, by decide +kernel, by decide⟩
theorem kn_J7_fill_53178 : Kn yJ7_fill_53178 cJ7_fill_53178 4 none 2 := ⟨wm_54, wm_38, by decide +kernel, by decide⟩
/-! ===== java/lang/Long.bitCount(J)I ===== -/
def b_J13_bitCount_95d88_55 (a0 : Int64) (h : AH) : Option (Int32 × AH) :=
  some (a0.toInt32 &&& (127 : Int32), h)
set_option maxHeartbeats 4000000 in
set_option maxRecDepth 100000 in
theorem q_J13_bitCount_95d88_55 {a0 : Int64} {h hE : AH} {v : Int32} (hf : b_J13_bitCount_95d88_55 a0 h = some (v, hE)) : JD cJ13_bitCount_95d88 2 RJ13 "bitCount" (some .int) (2) 55 [(0, .inr (.inl (a0)))] [] h hE (some (.inl (v))) := by
  unfold b_J13_bitCount_95d88_55 at hf
  obtain ⟨hv, hh⟩ := Prod.mk.inj (Option.some.inj hf)
  subst hv
  subst hh
  have mE : hp_n h ≤ hp_n h ∧ hp_s h ≤ hp_s h := ⟨Nat.le_refl _, Nat.le_refl _⟩
  refine ⟨by omega, fun X g K ok nmx lev hK en => ?_⟩
  refine tj_lload_n ok 0 dJ13_bitCount_95d88_55 rfl rfl ?_
  refine tj_l2i ok dJ13_bitCount_95d88_56 ?_
  refine tj_bipush (v := 127) ok dJ13_bitCount_95d88_57 (by decide) ?_
  refine tj_iand ok dJ13_bitCount_95d88_59 ?_
  exact tj_ireturn ok en dJ13_bitCount_95d88_60
def b_J13_bitCount_95d88_48 (a0 : Int64) (h : AH) : Option (Int32 × AH) :=
  b_J13_bitCount_95d88_55 (a0 + (us_j a0 (32 : Int32))) h
set_option maxHeartbeats 4000000 in
set_option maxRecDepth 100000 in
theorem q_J13_bitCount_95d88_48 {a0 : Int64} {h hE : AH} {v : Int32} (hf : b_J13_bitCount_95d88_48 a0 h = some (v, hE)) : JD cJ13_bitCount_95d88 2 RJ13 "bitCount" (some .int) (2) 48 [(0, .inr (.inl (a0)))] [] h hE (some (.inl (v))) := by
  unfold b_J13_bitCount_95d88_48 at hf
  have J := q_J13_bitCount_95d88_55 hf
  have mE := J.1
  refine ⟨by omega, fun X g K ok nmx lev hK en => ?_⟩
  refine tj_lload_n ok 0 dJ13_bitCount_95d88_48 rfl rfl ?_
  refine tj_lload_n ok 0 dJ13_bitCount_95d88_49 rfl rfl ?_
  refine tj_bipush (v := 32) ok dJ13_bitCount_95d88_50 (by decide) ?_
  refine tj_lushr ok dJ13_bitCount_95d88_52 ?_
  refine tj_ladd ok dJ13_bitCount_95d88_53 ?_
  refine tj_lstore_n (lv' := [(0, .inr (.inl (a0 + (us_j a0 (32 : Int32)))))]) ok dJ13_bitCount_95d88_54 rfl (by decide) rfl ?_
  exact J.2 X g K ok nmx lev hK en
def b_J13_bitCount_95d88_41 (a0 : Int64) (h : AH) : Option (Int32 × AH) :=
  b_J13_bitCount_95d88_48 (a0 + (us_j a0 (16 : Int32))) h
set_option maxHeartbeats 4000000 in
set_option maxRecDepth 100000 in
theorem q_J13_bitCount_95d88_41 {a0 : Int64} {h hE : AH} {v : Int32} (hf : b_J13_bitCount_95d88_41 a0 h = some (v, hE)) : JD cJ13_bitCount_95d88 2 RJ13 "bitCount" (some .int) (2) 41 [(0, .inr (.inl (a0)))] [] h hE (some (.inl (v))) := by
  unfold b_J13_bitCount_95d88_41 at hf
  have J := q_J13_bitCount_95d88_48 hf
  have mE := J.1
  refine ⟨by omega, fun X g K ok nmx lev hK en => ?_⟩
  refine tj_lload_n ok 0 dJ13_bitCount_95d88_41 rfl rfl ?_
  refine tj_lload_n ok 0 dJ13_bitCount_95d88_42 rfl rfl ?_
  refine tj_bipush (v := 16) ok dJ13_bitCount_95d88_43 (by decide) ?_
  refine tj_lushr ok dJ13_bitCount_95d88_45 ?_
  refine tj_ladd ok dJ13_bitCount_95d88_46 ?_
  refine tj_lstore_n (lv' := [(0, .inr (.inl (a0 + (us_j a0 (16 : Int32)))))]) ok dJ13_bitCount_95d88_47 rfl (by decide) rfl ?_
  exact J.2 X g K ok nmx lev hK en
def b_J13_bitCount_95d88_34 (a0 : Int64) (h : AH) : Option (Int32 × AH) :=
  b_J13_bitCount_95d88_41 (a0 + (us_j a0 (8 : Int32))) h
set_option maxHeartbeats 4000000 in
set_option maxRecDepth 100000 in
theorem q_J13_bitCount_95d88_34 {a0 : Int64} {h hE : AH} {v : Int32} (hf : b_J13_bitCount_95d88_34 a0 h = some (v, hE)) : JD cJ13_bitCount_95d88 2 RJ13 "bitCount" (some .int) (2) 34 [(0, .inr (.inl (a0)))] [] h hE (some (.inl (v))) := by
  unfold b_J13_bitCount_95d88_34 at hf
  have J := q_J13_bitCount_95d88_41 hf
  have mE := J.1
  refine ⟨by omega, fun X g K ok nmx lev hK en => ?_⟩
  refine tj_lload_n ok 0 dJ13_bitCount_95d88_34 rfl rfl ?_
  refine tj_lload_n ok 0 dJ13_bitCount_95d88_35 rfl rfl ?_
  refine tj_bipush (v := 8) ok dJ13_bitCount_95d88_36 (by decide) ?_
  refine tj_lushr ok dJ13_bitCount_95d88_38 ?_
  refine tj_ladd ok dJ13_bitCount_95d88_39 ?_
  refine tj_lstore_n (lv' := [(0, .inr (.inl (a0 + (us_j a0 (8 : Int32)))))]) ok dJ13_bitCount_95d88_40 rfl (by decide) rfl ?_
  exact J.2 X g K ok nmx lev hK en
def b_J13_bitCount_95d88_24 (a0 : Int64) (h : AH) : Option (Int32 × AH) :=
  b_J13_bitCount_95d88_34 ((a0 + (us_j a0 (4 : Int32))) &&& (1085102592571150095 : Int64)) h
set_option maxHeartbeats 4000000 in
set_option maxRecDepth 100000 in
theorem q_J13_bitCount_95d88_24 {a0 : Int64} {h hE : AH} {v : Int32} (hf : b_J13_bitCount_95d88_24 a0 h = some (v, hE)) : JD cJ13_bitCount_95d88 2 RJ13 "bitCount" (some .int) (2) 24 [(0, .inr (.inl (a0)))] [] h hE (some (.inl (v))) := by
  unfold b_J13_bitCount_95d88_24 at hf
  have J := q_J13_bitCount_95d88_34 hf
  have mE := J.1
  refine ⟨by omega, fun X g K ok nmx lev hK en => ?_⟩
  refine tj_lload_n ok 0 dJ13_bitCount_95d88_24 rfl rfl ?_
  refine tj_lload_n ok 0 dJ13_bitCount_95d88_25 rfl rfl ?_
  refine tj_iconst (v := 4) ok dJ13_bitCount_95d88_26 (by decide) ?_
  refine tj_lushr ok dJ13_bitCount_95d88_27 ?_
  refine tj_ladd ok dJ13_bitCount_95d88_28 ?_
  refine tj_ldc2 (v := 1085102592571150095) ok dJ13_bitCount_95d88_29 wm_29 ?_
  refine tj_land ok dJ13_bitCount_95d88_32 ?_
  refine tj_lstore_n (lv' := [(0, .inr (.inl ((a0 + (us_j a0 (4 : Int32))) &&& (1085102592571150095 : Int64))))]) ok dJ13_bitCount_95d88_33 rfl (by decide) rfl ?_
  exact J.2 X g K ok nmx lev hK en
def b_J13_bitCount_95d88_10 (a0 : Int64) (h : AH) : Option (Int32 × AH) :=
  b_J13_bitCount_95d88_24 ((a0 &&& (3689348814741910323 : Int64)) + ((us_j a0 (2 : Int32)) &&& (3689348814741910323 : Int64))) h
set_option maxHeartbeats 4000000 in
set_option maxRecDepth 100000 in
theorem q_J13_bitCount_95d88_10 {a0 : Int64} {h hE : AH} {v : Int32} (hf : b_J13_bitCount_95d88_10 a0 h = some (v, hE)) : JD cJ13_bitCount_95d88 2 RJ13 "bitCount" (some .int) (2) 10 [(0, .inr (.inl (a0)))] [] h hE (some (.inl (v))) := by
  unfold b_J13_bitCount_95d88_10 at hf
  have J := q_J13_bitCount_95d88_24 hf
  have mE := J.1
  refine ⟨by omega, fun X g K ok nmx lev hK en => ?_⟩
  refine tj_lload_n ok 0 dJ13_bitCount_95d88_10 rfl rfl ?_
  refine tj_ldc2 (v := 3689348814741910323) ok dJ13_bitCount_95d88_11 wm_30 ?_
  refine tj_land ok dJ13_bitCount_95d88_14 ?_
  refine tj_lload_n ok 0 dJ13_bitCount_95d88_15 rfl rfl ?_
  refine tj_iconst (v := 2) ok dJ13_bitCount_95d88_16 (by decide) ?_
  refine tj_lushr ok dJ13_bitCount_95d88_17 ?_
  refine tj_ldc2 (v := 3689348814741910323) ok dJ13_bitCount_95d88_18 wm_30 ?_
  refine tj_land ok dJ13_bitCount_95d88_21 ?_
  refine tj_ladd ok dJ13_bitCount_95d88_22 ?_
  refine tj_lstore_n (lv' := [(0, .inr (.inl ((a0 &&& (3689348814741910323 : Int64)) + ((us_j a0 (2 : Int32)) &&& (3689348814741910323 : Int64)))))]) ok dJ13_bitCount_95d88_23 rfl (by decide) rfl ?_
  exact J.2 X g K ok nmx lev hK en
def b_J13_bitCount_95d88_0 (a0 : Int64) (h : AH) : Option (Int32 × AH) :=
  b_J13_bitCount_95d88_10 (a0 - ((us_j a0 (1 : Int32)) &&& (6148914691236517205 : Int64))) h
set_option maxHeartbeats 4000000 in
set_option maxRecDepth 100000 in
theorem q_J13_bitCount_95d88_0 {a0 : Int64} {h hE : AH} {v : Int32} (hf : b_J13_bitCount_95d88_0 a0 h = some (v, hE)) : JD cJ13_bitCount_95d88 2 RJ13 "bitCount" (some .int) (2) 0 [(0, .inr (.inl (a0)))] [] h hE (some (.inl (v))) := by
  unfold b_J13_bitCount_95d88_0 at hf
  have J := q_J13_bitCount_95d88_10 hf
  have mE := J.1
  refine ⟨by omega, fun X g K ok nmx lev hK en => ?_⟩
  refine tj_lload_n ok 0 dJ13_bitCount_95d88_0 rfl rfl ?_
  refine tj_lload_n ok 0 dJ13_bitCount_95d88_1 rfl rfl ?_
  refine tj_iconst (v := 1) ok dJ13_bitCount_95d88_2 (by decide) ?_
  refine tj_lushr ok dJ13_bitCount_95d88_3 ?_
  refine tj_ldc2 (v := 6148914691236517205) ok dJ13_bitCount_95d88_4 wm_31 ?_
  refine tj_land ok dJ13_bitCount_95d88_7 ?_
  refine tj_lsub ok dJ13_bitCount_95d88_8 ?_
  refine tj_lstore_n (lv' := [(0, .inr (.inl (a0 - ((us_j a0 (1 : Int32)) &&& (6148914691236517205 : Int64)))))]) ok dJ13_bitCount_95d88_9 rfl (by decide) rfl ?_
  exact J.2 X g K ok nmx lev hK en
def f_J13_bitCount_95d88 (a0 : Int64) (h : AH) : Option (Int32 × AH) := b_J13_bitCount_95d88_0  a0 h
theorem c_J13_bitCount_95d88 {a0 : Int64} {h hE : AH} {v : Int32} (hf : f_J13_bitCount_95d88 a0 h = some (v, hE)) : ∀ g : GT, CM g (2) yJ13_bitCount_95d88 cJ13_bitCount_95d88 2 (some .int) h [.inr (.inl (a0))] hE (some (.inl (v))) :=
  CM.ofJ (by decide) (by show _ ≤ 2; exact Nat.le_of_ble_eq_true rfl) (q_J13_bitCount_95d88_0 hf)
/-! ===== java/lang/Integer.bitCount(I)I ===== -/
def b_J6_bitCount_0f7a4_48 (a0 : Int32) (h : AH) : Option (Int32 × AH) :=
  some (a0 &&& (63 : Int32), h)
set_option maxHeartbeats 4000000 in
set_option maxRecDepth 100000 in
theorem q_J6_bitCount_0f7a4_48 {a0 : Int32} {h hE : AH} {v : Int32} (hf : b_J6_bitCount_0f7a4_48 a0 h = some (v, hE)) : JD cJ6_bitCount_0f7a4 1 RJ6 "bitCount" (some .int) (2) 48 [(0, .inl (a0))] [] h hE (some (.inl (v))) := by
  unfold b_J6_bitCount_0f7a4_48 at hf
  obtain ⟨hv, hh⟩ := Prod.mk.inj (Option.some.inj hf)
  subst hv
  subst hh
  have mE : hp_n h ≤ hp_n h ∧ hp_s h ≤ hp_s h := ⟨Nat.le_refl _, Nat.le_refl _⟩
  refine ⟨by omega, fun X g K ok nmx lev hK en => ?_⟩
  refine tj_iload_n ok 0 dJ6_bitCount_0f7a4_48 rfl rfl ?_
  refine tj_bipush (v := 63) ok dJ6_bitCount_0f7a4_49 (by decide) ?_
  refine tj_iand ok dJ6_bitCount_0f7a4_51 ?_
  exact tj_ireturn ok en dJ6_bitCount_0f7a4_52
def b_J6_bitCount_0f7a4_41 (a0 : Int32) (h : AH) : Option (Int32 × AH) :=
  b_J6_bitCount_0f7a4_48 (a0 + (us_i a0 (16 : Int32))) h
set_option maxHeartbeats 4000000 in
set_option maxRecDepth 100000 in
theorem q_J6_bitCount_0f7a4_41 {a0 : Int32} {h hE : AH} {v : Int32} (hf : b_J6_bitCount_0f7a4_41 a0 h = some (v, hE)) : JD cJ6_bitCount_0f7a4 1 RJ6 "bitCount" (some .int) (2) 41 [(0, .inl (a0))] [] h hE (some (.inl (v))) := by
  unfold b_J6_bitCount_0f7a4_41 at hf
  have J := q_J6_bitCount_0f7a4_48 hf
  have mE := J.1
  refine ⟨by omega, fun X g K ok nmx lev hK en => ?_⟩
  refine tj_iload_n ok 0 dJ6_bitCount_0f7a4_41 rfl rfl ?_
  refine tj_iload_n ok 0 dJ6_bitCount_0f7a4_42 rfl rfl ?_
  refine tj_bipush (v := 16) ok dJ6_bitCount_0f7a4_43 (by decide) ?_
  refine tj_iushr ok dJ6_bitCount_0f7a4_45 ?_
  refine tj_iadd ok dJ6_bitCount_0f7a4_46 ?_
  refine tj_istore_n (lv' := [(0, .inl (a0 + (us_i a0 (16 : Int32))))]) ok dJ6_bitCount_0f7a4_47 rfl (by decide) rfl ?_
  exact J.2 X g K ok nmx lev hK en
def b_J6_bitCount_0f7a4_34 (a0 : Int32) (h : AH) : Option (Int32 × AH) :=
  b_J6_bitCount_0f7a4_41 (a0 + (us_i a0 (8 : Int32))) h
set_option maxHeartbeats 4000000 in
set_option maxRecDepth 100000 in
theorem q_J6_bitCount_0f7a4_34 {a0 : Int32} {h hE : AH} {v : Int32} (hf : b_J6_bitCount_0f7a4_34 a0 h = some (v, hE)) : JD cJ6_bitCount_0f7a4 1 RJ6 "bitCount" (some .int) (2) 34 [(0, .inl (a0))] [] h hE (some (.inl (v))) := by
  unfold b_J6_bitCount_0f7a4_34 at hf
  have J := q_J6_bitCount_0f7a4_41 hf
  have mE := J.1
  refine ⟨by omega, fun X g K ok nmx lev hK en => ?_⟩
  refine tj_iload_n ok 0 dJ6_bitCount_0f7a4_34 rfl rfl ?_
  refine tj_iload_n ok 0 dJ6_bitCount_0f7a4_35 rfl rfl ?_
  refine tj_bipush (v := 8) ok dJ6_bitCount_0f7a4_36 (by decide) ?_
  refine tj_iushr ok dJ6_bitCount_0f7a4_38 ?_
  refine tj_iadd ok dJ6_bitCount_0f7a4_39 ?_
  refine tj_istore_n (lv' := [(0, .inl (a0 + (us_i a0 (8 : Int32))))]) ok dJ6_bitCount_0f7a4_40 rfl (by decide) rfl ?_
  exact J.2 X g K ok nmx lev hK en
def b_J6_bitCount_0f7a4_24 (a0 : Int32) (h : AH) : Option (Int32 × AH) :=
  b_J6_bitCount_0f7a4_34 ((a0 + (us_i a0 (4 : Int32))) &&& (252645135 : Int32)) h
set_option maxHeartbeats 4000000 in
set_option maxRecDepth 100000 in
theorem q_J6_bitCount_0f7a4_24 {a0 : Int32} {h hE : AH} {v : Int32} (hf : b_J6_bitCount_0f7a4_24 a0 h = some (v, hE)) : JD cJ6_bitCount_0f7a4 1 RJ6 "bitCount" (some .int) (2) 24 [(0, .inl (a0))] [] h hE (some (.inl (v))) := by
  unfold b_J6_bitCount_0f7a4_24 at hf
  have J := q_J6_bitCount_0f7a4_34 hf
  have mE := J.1
  refine ⟨by omega, fun X g K ok nmx lev hK en => ?_⟩
  refine tj_iload_n ok 0 dJ6_bitCount_0f7a4_24 rfl rfl ?_
  refine tj_iload_n ok 0 dJ6_bitCount_0f7a4_25 rfl rfl ?_
  refine tj_iconst (v := 4) ok dJ6_bitCount_0f7a4_26 (by decide) ?_
  refine tj_iushr ok dJ6_bitCount_0f7a4_27 ?_
  refine tj_iadd ok dJ6_bitCount_0f7a4_28 ?_
  refine tj_ldcw (v := 252645135) ok dJ6_bitCount_0f7a4_29 wm_34 ?_
  refine tj_iand ok dJ6_bitCount_0f7a4_32 ?_
  refine tj_istore_n (lv' := [(0, .inl ((a0 + (us_i a0 (4 : Int32))) &&& (252645135 : Int32)))]) ok dJ6_bitCount_0f7a4_33 rfl (by decide) rfl ?_
  exact J.2 X g K ok nmx lev hK en
def b_J6_bitCount_0f7a4_10 (a0 : Int32) (h : AH) : Option (Int32 × AH) :=
  b_J6_bitCount_0f7a4_24 ((a0 &&& (858993459 : Int32)) + ((us_i a0 (2 : Int32)) &&& (858993459 : Int32))) h
set_option maxHeartbeats 4000000 in
set_option maxRecDepth 100000 in
theorem q_J6_bitCount_0f7a4_10 {a0 : Int32} {h hE : AH} {v : Int32} (hf : b_J6_bitCount_0f7a4_10 a0 h = some (v, hE)) : JD cJ6_bitCount_0f7a4 1 RJ6 "bitCount" (some .int) (2) 10 [(0, .inl (a0))] [] h hE (some (.inl (v))) := by
  unfold b_J6_bitCount_0f7a4_10 at hf
  have J := q_J6_bitCount_0f7a4_24 hf
  have mE := J.1
  refine ⟨by omega, fun X g K ok nmx lev hK en => ?_⟩
  refine tj_iload_n ok 0 dJ6_bitCount_0f7a4_10 rfl rfl ?_
  refine tj_ldcw (v := 858993459) ok dJ6_bitCount_0f7a4_11 wm_35 ?_
  refine tj_iand ok dJ6_bitCount_0f7a4_14 ?_
  refine tj_iload_n ok 0 dJ6_bitCount_0f7a4_15 rfl rfl ?_
  refine tj_iconst (v := 2) ok dJ6_bitCount_0f7a4_16 (by decide) ?_
  refine tj_iushr ok dJ6_bitCount_0f7a4_17 ?_
  refine tj_ldcw (v := 858993459) ok dJ6_bitCount_0f7a4_18 wm_35 ?_
  refine tj_iand ok dJ6_bitCount_0f7a4_21 ?_
  refine tj_iadd ok dJ6_bitCount_0f7a4_22 ?_
  refine tj_istore_n (lv' := [(0, .inl ((a0 &&& (858993459 : Int32)) + ((us_i a0 (2 : Int32)) &&& (858993459 : Int32))))]) ok dJ6_bitCount_0f7a4_23 rfl (by decide) rfl ?_
  exact J.2 X g K ok nmx lev hK en
def b_J6_bitCount_0f7a4_0 (a0 : Int32) (h : AH) : Option (Int32 × AH) :=
  b_J6_bitCount_0f7a4_10 (a0 - ((us_i a0 (1 : Int32)) &&& (1431655765 : Int32))) h
set_option maxHeartbeats 4000000 in
set_option maxRecDepth 100000 in
theorem q_J6_bitCount_0f7a4_0 {a0 : Int32} {h hE : AH} {v : Int32} (hf : b_J6_bitCount_0f7a4_0 a0 h = some (v, hE)) : JD cJ6_bitCount_0f7a4 1 RJ6 "bitCount" (some .int) (2) 0 [(0, .inl (a0))] [] h hE (some (.inl (v))) := by
  unfold b_J6_bitCount_0f7a4_0 at hf
  have J := q_J6_bitCount_0f7a4_10 hf
  have mE := J.1
  refine ⟨by omega, fun X g K ok nmx lev hK en => ?_⟩
  refine tj_iload_n ok 0 dJ6_bitCount_0f7a4_0 rfl rfl ?_
  refine tj_iload_n ok 0 dJ6_bitCount_0f7a4_1 rfl rfl ?_
  refine tj_iconst (v := 1) ok dJ6_bitCount_0f7a4_2 (by decide) ?_
  refine tj_iushr ok dJ6_bitCount_0f7a4_3 ?_
  refine tj_ldcw (v := 1431655765) ok dJ6_bitCount_0f7a4_4 wm_36 ?_
  refine tj_iand ok dJ6_bitCount_0f7a4_7 ?_
  refine tj_isub ok dJ6_bitCount_0f7a4_8 ?_
  refine tj_istore_n (lv' := [(0, .inl (a0 - ((us_i a0 (1 : Int32)) &&& (1431655765 : Int32))))]) ok dJ6_bitCount_0f7a4_9 rfl (by decide) rfl ?_
  exact J.2 X g K ok nmx lev hK en
def f_J6_bitCount_0f7a4 (a0 : Int32) (h : AH) : Option (Int32 × AH) := b_J6_bitCount_0f7a4_0  a0 h
theorem c_J6_bitCount_0f7a4 {a0 : Int32} {h hE : AH} {v : Int32} (hf : f_J6_bitCount_0f7a4 a0 h = some (v, hE)) : ∀ g : GT, CM g (2) yJ6_bitCount_0f7a4 cJ6_bitCount_0f7a4 1 (some .int) h [.inl (a0)] hE (some (.inl (v))) :=
  CM.ofJ (by decide) (by show _ ≤ 1; exact Nat.le_of_ble_eq_true rfl) (q_J6_bitCount_0f7a4_0 hf)
/-! ===== java/util/Arrays.copyOf([II)[I ===== -/
def b_J7_copyOf_59c91_14 (a0 : Nat) (a1 : Int32) (h : AH) : Option (Nat × AH) :=
  (n_a h 100 a1).bind fun h1 => (al_n h1 a0).bind fun x2 => (cp_a h1 a0 (0 : Int32) (hp_n h) (0 : Int32) (mn_i x2 a1)).bind fun h3 => some (hp_n h, h3)
set_option maxHeartbeats 4000000 in
set_option maxRecDepth 100000 in
theorem q_J7_copyOf_59c91_14 {a0 : Nat} {a1 : Int32} {h hE : AH} {v : Nat} (hf : b_J7_copyOf_59c91_14 a0 a1 h = some (v, hE)) : JD cJ7_copyOf_59c91 3 RJ7 "copyOf" (some (.array .int)) (2) 14 [(0, .inr (.inr (a0))), (1, .inl (a1))] [] h hE (some (.inr (.inr (v)))) := by
  unfold b_J7_copyOf_59c91_14 at hf
  obtain ⟨h1, e1, hf⟩ := bnd hf
  have m1 := nn_n e1
  obtain ⟨x2, e2, hf⟩ := bnd hf
  obtain ⟨h3, e3, hf⟩ := bnd hf
  have m3 := nn_cp e3
  obtain ⟨hv, hh⟩ := Prod.mk.inj (Option.some.inj hf)
  subst hv
  subst hh
  have mE : hp_n h3 ≤ hp_n h3 ∧ hp_s h3 ≤ hp_s h3 := ⟨Nat.le_refl _, Nat.le_refl _⟩
  refine ⟨by omega, fun X g K ok nmx lev hK en => ?_⟩
  refine tj_iload_n ok 1 dJ7_copyOf_59c91_14 rfl rfl ?_
  refine tj_newI ok wm_39 dJ7_copyOf_59c91_15 e1 (CaX.of en (by omega)) ?_
  refine tj_astore_n (lv' := [(0, .inr (.inr (a0))), (1, .inl (a1)), (2, .inr (.inr (hp_n h)))]) ok dJ7_copyOf_59c91_17 rfl (by decide) rfl ?_
  refine tj_aload_n ok 0 dJ7_copyOf_59c91_18 rfl rfl ?_
  refine tj_iconst (v := 0) ok dJ7_copyOf_59c91_19 (by decide) ?_
  refine tj_aload_n ok 2 dJ7_copyOf_59c91_20 rfl rfl ?_
  refine tj_iconst (v := 0) ok dJ7_copyOf_59c91_21 (by decide) ?_
  refine tj_aload_n ok 0 dJ7_copyOf_59c91_22 rfl rfl ?_
  refine tj_alen ok dJ7_copyOf_59c91_23 e2 ?_
  refine tj_iload_n ok 1 dJ7_copyOf_59c91_24 rfl rfl ?_
  refine tj_min (rest := ([.inl ((0 : Int32)), .inr (.inr (hp_n h)), .inl ((0 : Int32)), .inr (.inr (a0))] : List TV).map (vl g)) ok lev (by omega) (CaX.of en (by omega)) wm_40 wm_41 wm_42 wm_43 (rs_ok (Nat.le_of_ble_eq_true rfl)) dJ7_copyOf_59c91_25 ?_
  refine tj_acopy (rest := ([] : List TV).map (vl g)) ok lev (by omega) wm_44 wm_45 wm_46 wm_47 (rs_ok (Nat.le_of_ble_eq_true rfl)) e3 dJ7_copyOf_59c91_28 ?_
  refine tj_aload_n ok 2 dJ7_copyOf_59c91_31 rfl rfl ?_
  exact tj_areturn ok (Or.inr ⟨_, rfl⟩) en dJ7_copyOf_59c91_32
def b_J7_copyOf_59c91_6 (a0 : Nat) (h : AH) : Option (Nat × AH) :=
  (c_l h a0).bind fun h1 => (ok_v h1 (hp_n h) 100).bind fun x2 => some (hp_n h, h1)
set_option maxHeartbeats 4000000 in
set_option maxRecDepth 100000 in
theorem q_J7_copyOf_59c91_6 {a0 : Nat} {h hE : AH} {v : Nat} (hf : b_J7_copyOf_59c91_6 a0 h = some (v, hE)) : JD cJ7_copyOf_59c91 3 RJ7 "copyOf" (some (.array .int)) (2) 6 [(0, .inr (.inr (a0)))] [] h hE (some (.inr (.inr (v)))) := by
  unfold b_J7_copyOf_59c91_6 at hf
  obtain ⟨h1, e1, hf⟩ := bnd hf
  have m1 := nn_cl e1
  obtain ⟨x2, e2, hf⟩ := bnd hf
  obtain ⟨hv, hh⟩ := Prod.mk.inj (Option.some.inj hf)
  subst hv
  subst hh
  have mE : hp_n h1 ≤ hp_n h1 ∧ hp_s h1 ≤ hp_s h1 := ⟨Nat.le_refl _, Nat.le_refl _⟩
  refine ⟨by omega, fun X g K ok nmx lev hK en => ?_⟩
  refine tj_aload_n ok 0 dJ7_copyOf_59c91_6 rfl rfl ?_
  refine tj_clone (rest := ([] : List TV).map (vl g)) ok lev (by omega) wm_48 wm_49 wm_50 wm_51 wm_52 (rs_ok (Nat.le_of_ble_eq_true rfl)) e1 (CaX.of en (by omega)) dJ7_copyOf_59c91_7 ?_
  refine tj_castI ok (of_if e2).1 wm_53 dJ7_copyOf_59c91_10 ?_
  exact tj_areturn ok (Or.inr ⟨_, rfl⟩) en dJ7_copyOf_59c91_13
def b_J7_copyOf_59c91_0 (a0 : Nat) (a1 : Int32) (h : AH) : Option (Nat × AH) :=
  (al_n h a0).bind fun x1 => if a1 = x1 then b_J7_copyOf_59c91_6 a0 h else b_J7_copyOf_59c91_14 a0 a1 h
set_option maxHeartbeats 4000000 in
set_option maxRecDepth 100000 in
theorem q_J7_copyOf_59c91_0 {a0 : Nat} {a1 : Int32} {h hE : AH} {v : Nat} (hf : b_J7_copyOf_59c91_0 a0 a1 h = some (v, hE)) : JD cJ7_copyOf_59c91 3 RJ7 "copyOf" (some (.array .int)) (2) 0 [(0, .inr (.inr (a0))), (1, .inl (a1))] [] h hE (some (.inr (.inr (v)))) := by
  unfold b_J7_copyOf_59c91_0 at hf
  obtain ⟨x1, e1, hf⟩ := bnd hf
  have mE : hp_n h ≤ hp_n hE ∧ hp_s h ≤ hp_s hE := by
    by_cases hc : a1 = x1
    · rw [if_pos hc] at hf; exact (q_J7_copyOf_59c91_6 hf).1
    · rw [if_neg hc] at hf; exact (q_J7_copyOf_59c91_14 hf).1
  refine ⟨by omega, fun X g K ok nmx lev hK en => ?_⟩
  refine tj_iload_n ok 1 dJ7_copyOf_59c91_0 rfl rfl ?_
  refine tj_aload_n ok 0 dJ7_copyOf_59c91_1 rfl rfl ?_
  refine tj_alen ok dJ7_copyOf_59c91_2 e1 ?_
  refine tj_icmp_ne (tgt := 14) ok dJ7_copyOf_59c91_3 (by decide) (fun hc => ?_) (fun hc => ?_)
  · rw [if_neg hc] at hf
    exact (q_J7_copyOf_59c91_14 hf).2 X g K ok nmx lev hK en
  · rw [if_pos hc] at hf
    refine tj_sub (lv' := [(0, .inr (.inr (a0)))]) [0] rfl ?_
    exact (q_J7_copyOf_59c91_6 hf).2 X g K ok nmx lev hK en
def f_J7_copyOf_59c91 (a0 : Nat) (a1 : Int32) (h : AH) : Option (Nat × AH) := b_J7_copyOf_59c91_0  a0 a1 h
theorem c_J7_copyOf_59c91 {a0 : Nat} {a1 : Int32} {h hE : AH} {v : Nat} (hf : f_J7_copyOf_59c91 a0 a1 h = some (v, hE)) : ∀ g : GT, CM g (2) yJ7_copyOf_59c91 cJ7_copyOf_59c91 3 (some (.array .int)) h [.inr (.inr (a0)), .inl (a1)] hE (some (.inr (.inr (v)))) :=
  CM.ofJ (by decide) (by show _ ≤ 3; exact Nat.le_of_ble_eq_true rfl) (q_J7_copyOf_59c91_0 hf)
/-! ===== java/util/Arrays.fill([II)V ===== -/
def b_J7_fill_53178_20  (h : AH) : Option (AH) :=
  some h
set_option maxHeartbeats 4000000 in
set_option maxRecDepth 100000 in
theorem q_J7_fill_53178_20 {h hE : AH} (hf : b_J7_fill_53178_20  h = some hE) : JD cJ7_fill_53178 4 RJ7 "fill" none (2) 20 [] [] h hE none := by
  unfold b_J7_fill_53178_20 at hf
  have hh := Option.some.inj hf
  subst hh
  have mE : hp_n h ≤ hp_n h ∧ hp_s h ≤ hp_s h := ⟨Nat.le_refl _, Nat.le_refl _⟩
  refine ⟨by omega, fun X g K ok nmx lev hK en => ?_⟩
  exact tj_return ok en dJ7_fill_53178_20
def b_J7_fill_53178_10 (r5 : Nat → Int32 → Int32 → Int32 → AH → Option (AH)) (a0 : Nat) (a1 : Int32) (a2 : Int32) (a3 : Int32) (h : AH) : Option (AH) :=
  (s_i h a0 a2 a1).bind fun h1 => r5 a0 a1 (a2 + (1 : Int32)) a3 h1
set_option maxHeartbeats 4000000 in
set_option maxRecDepth 100000 in
theorem q_J7_fill_53178_10 {hE : AH} {r5 : Nat → Int32 → Int32 → Int32 → AH → Option (AH)} (hr5 : ∀ (b0 : Nat) (b1 : Int32) (b2 : Int32) (b3 : Int32) (h : AH), r5 b0 b1 b2 b3 h = some hE → JD cJ7_fill_53178 4 RJ7 "fill" none (2) 5 [(0, .inr (.inr (b0))), (1, .inl (b1)), (2, .inl (b2)), (3, .inl (b3))] [] h hE none) {a0 : Nat} {a1 : Int32} {a2 : Int32} {a3 : Int32} {h : AH} (hf : b_J7_fill_53178_10 r5 a0 a1 a2 a3 h = some hE) : JD cJ7_fill_53178 4 RJ7 "fill" none (2) 10 [(0, .inr (.inr (a0))), (1, .inl (a1)), (2, .inl (a2)), (3, .inl (a3))] [] h hE none := by
  unfold b_J7_fill_53178_10 at hf
  obtain ⟨h1, e1, hf⟩ := bnd hf
  have m1 := nn_si e1
  have J := hr5 _ _ _ _ _ hf
  have mE := J.1
  refine ⟨by omega, fun X g K ok nmx lev hK en => ?_⟩
  refine tj_aload_n ok 0 dJ7_fill_53178_10 rfl rfl ?_
  refine tj_iload_n ok 2 dJ7_fill_53178_11 rfl rfl ?_
  refine tj_iload_n ok 1 dJ7_fill_53178_12 rfl rfl ?_
  refine tj_iastore ok dJ7_fill_53178_13 e1 ?_
  refine tj_iinc (lv' := [(0, .inr (.inr (a0))), (1, .inl (a1)), (2, .inl (a2 + (1 : Int32))), (3, .inl (a3))]) ok 2 dJ7_fill_53178_14 rfl (rfl) (by decide) rfl ?_
  refine tj_goto (tgt := 5) ok dJ7_fill_53178_17 (by decide) ?_
  exact J.2 X g K ok nmx lev hK en
def b_J7_fill_53178_5 (r5 : Nat → Int32 → Int32 → Int32 → AH → Option (AH)) (a0 : Nat) (a1 : Int32) (a2 : Int32) (a3 : Int32) (h : AH) : Option (AH) :=
  if a3 ≤ a2 then b_J7_fill_53178_20 h else b_J7_fill_53178_10 r5 a0 a1 a2 a3 h
set_option maxHeartbeats 4000000 in
set_option maxRecDepth 100000 in
theorem q_J7_fill_53178_5 {hE : AH} {r5 : Nat → Int32 → Int32 → Int32 → AH → Option (AH)} (hr5 : ∀ (b0 : Nat) (b1 : Int32) (b2 : Int32) (b3 : Int32) (h : AH), r5 b0 b1 b2 b3 h = some hE → JD cJ7_fill_53178 4 RJ7 "fill" none (2) 5 [(0, .inr (.inr (b0))), (1, .inl (b1)), (2, .inl (b2)), (3, .inl (b3))] [] h hE none) {a0 : Nat} {a1 : Int32} {a2 : Int32} {a3 : Int32} {h : AH} (hf : b_J7_fill_53178_5 r5 a0 a1 a2 a3 h = some hE) : JD cJ7_fill_53178 4 RJ7 "fill" none (2) 5 [(0, .inr (.inr (a0))), (1, .inl (a1)), (2, .inl (a2)), (3, .inl (a3))] [] h hE none := by
  unfold b_J7_fill_53178_5 at hf
  have mE : hp_n h ≤ hp_n hE ∧ hp_s h ≤ hp_s hE := by
    by_cases hc : a3 ≤ a2
    · rw [if_pos hc] at hf; exact (q_J7_fill_53178_20 hf).1
    · rw [if_neg hc] at hf; exact (q_J7_fill_53178_10 hr5 hf).1
  refine ⟨by omega, fun X g K ok nmx lev hK en => ?_⟩
  refine tj_iload_n ok 2 dJ7_fill_53178_5 rfl rfl ?_
  refine tj_iload_n ok 3 dJ7_fill_53178_6 rfl rfl ?_
  refine tj_icmp_ge (tgt := 20) ok dJ7_fill_53178_7 (by decide) (fun hc => ?_) (fun hc => ?_)
  · rw [if_pos hc] at hf
    refine tj_sub (lv' := []) [] rfl ?_
    exact (q_J7_fill_53178_20 hf).2 X g K ok nmx lev hK en
  · rw [if_neg hc] at hf
    exact (q_J7_fill_53178_10 hr5 hf).2 X g K ok nmx lev hK en
def l_J7_fill_53178_5 : Nat → Nat → Int32 → Int32 → Int32 → AH → Option (AH)
  | 0 => fun _ _ _ _ _ => none
  | n + 1 => fun a0 a1 a2 a3 h => b_J7_fill_53178_5 (l_J7_fill_53178_5 n) a0 a1 a2 a3 h
theorem ql_J7_fill_53178_5 {n : Nat} {a0 : Nat} {a1 : Int32} {a2 : Int32} {a3 : Int32} {h hE : AH} (hf : l_J7_fill_53178_5 n a0 a1 a2 a3 h = some hE) : JD cJ7_fill_53178 4 RJ7 "fill" none (2) 5 [(0, .inr (.inr (a0))), (1, .inl (a1)), (2, .inl (a2)), (3, .inl (a3))] [] h hE none := by
  induction n generalizing a0 a1 a2 a3 h with
  | zero => cases hf
  | succ n ih => exact q_J7_fill_53178_5 (fun _ _ _ _ _ hf => ih hf) hf
def b_J7_fill_53178_0 (a0 : Nat) (a1 : Int32) (h : AH) : Option (AH) :=
  (al_n h a0).bind fun x1 => l_J7_fill_53178_5 fu_ a0 a1 (0 : Int32) x1 h
set_option maxHeartbeats 4000000 in
set_option maxRecDepth 100000 in
theorem q_J7_fill_53178_0 {a0 : Nat} {a1 : Int32} {h hE : AH} (hf : b_J7_fill_53178_0 a0 a1 h = some hE) : JD cJ7_fill_53178 4 RJ7 "fill" none (2) 0 [(0, .inr (.inr (a0))), (1, .inl (a1))] [] h hE none := by
  unfold b_J7_fill_53178_0 at hf
  obtain ⟨x1, e1, hf⟩ := bnd hf
  have J := ql_J7_fill_53178_5 hf
  have mE := J.1
  refine ⟨by omega, fun X g K ok nmx lev hK en => ?_⟩
  refine tj_iconst (v := 0) ok dJ7_fill_53178_0 (by decide) ?_
  refine tj_istore_n (lv' := [(0, .inr (.inr (a0))), (1, .inl (a1)), (2, .inl ((0 : Int32)))]) ok dJ7_fill_53178_1 rfl (by decide) rfl ?_
  refine tj_aload_n ok 0 dJ7_fill_53178_2 rfl rfl ?_
  refine tj_alen ok dJ7_fill_53178_3 e1 ?_
  refine tj_istore_n (lv' := [(0, .inr (.inr (a0))), (1, .inl (a1)), (2, .inl ((0 : Int32))), (3, .inl (x1))]) ok dJ7_fill_53178_4 rfl (by decide) rfl ?_
  exact J.2 X g K ok nmx lev hK en
def f_J7_fill_53178 (a0 : Nat) (a1 : Int32) (h : AH) : Option (AH) := b_J7_fill_53178_0  a0 a1 h
theorem c_J7_fill_53178 {a0 : Nat} {a1 : Int32} {h hE : AH} (hf : f_J7_fill_53178 a0 a1 h = some hE) : ∀ g : GT, CM g (2) yJ7_fill_53178 cJ7_fill_53178 4 none h [.inr (.inr (a0)), .inl (a1)] hE none :=
  CM.ofJ (by decide) (by show _ ≤ 4; exact Nat.le_of_ble_eq_true rfl) (q_J7_fill_53178_0 hf)
