theorem dX5_keepOutcomes_0 : decode cX5_keepOutcomes 0 = .ok (.iload_n 1, 1) := by decide +kernel
theorem dX5_keepOutcomes_1 : decode cX5_keepOutcomes 1 = .ok (.lookupswitch 43 #[(0, 27), (1, 35)], 27) := by decide +kernel
theorem dX5_keepOutcomes_28 : decode cX5_keepOutcomes 28 = .ok (.aload_n 0, 1) := by decide +kernel
theorem dX5_keepOutcomes_29 : decode cX5_keepOutcomes 29 = .ok (.aload_n 2, 1) := by decide +kernel
theorem dX5_keepOutcomes_30 : decode cX5_keepOutcomes 30 = .ok (.putfield 32, 3) := by decide +kernel
theorem dX5_keepOutcomes_33 : decode cX5_keepOutcomes 33 = .ok (.goto 16, 3) := by decide +kernel
theorem dX5_keepOutcomes_36 : decode cX5_keepOutcomes 36 = .ok (.aload_n 0, 1) := by decide +kernel
theorem dX5_keepOutcomes_37 : decode cX5_keepOutcomes 37 = .ok (.aload_n 2, 1) := by decide +kernel
theorem dX5_keepOutcomes_38 : decode cX5_keepOutcomes 38 = .ok (.putfield 35, 3) := by decide +kernel
theorem dX5_keepOutcomes_41 : decode cX5_keepOutcomes 41 = .ok (.goto 8, 3) := by decide +kernel
theorem dX5_keepOutcomes_44 : decode cX5_keepOutcomes 44 = .ok (.aload_n 0, 1) := by decide +kernel
theorem dX5_keepOutcomes_45 : decode cX5_keepOutcomes 45 = .ok (.aload_n 2, 1) := by decide +kernel
theorem dX5_keepOutcomes_46 : decode cX5_keepOutcomes 46 = .ok (.putfield 38, 3) := by decide +kernel
theorem dX5_keepOutcomes_49 : decode cX5_keepOutcomes 49 = .ok (.return_, 1) := by decide +kernel
theorem dX5_knownOutcomes_0 : decode cX5_knownOutcomes 0 = .ok (.iload_n 1, 1) := by decide +kernel
theorem dX5_knownOutcomes_1 : decode cX5_knownOutcomes 1 = .ok (.lookupswitch 37 #[(0, 27), (1, 32)], 27) := by decide +kernel
theorem dX5_knownOutcomes_28 : decode cX5_knownOutcomes 28 = .ok (.aload_n 0, 1) := by decide +kernel
theorem dX5_knownOutcomes_29 : decode cX5_knownOutcomes 29 = .ok (.getfield 32, 3) := by decide +kernel
theorem dX5_knownOutcomes_32 : decode cX5_knownOutcomes 32 = .ok (.areturn, 1) := by decide +kernel
theorem dX5_knownOutcomes_33 : decode cX5_knownOutcomes 33 = .ok (.aload_n 0, 1) := by decide +kernel
theorem dX5_knownOutcomes_34 : decode cX5_knownOutcomes 34 = .ok (.getfield 35, 3) := by decide +kernel
theorem dX5_knownOutcomes_37 : decode cX5_knownOutcomes 37 = .ok (.areturn, 1) := by decide +kernel
theorem dX5_knownOutcomes_38 : decode cX5_knownOutcomes 38 = .ok (.aload_n 0, 1) := by decide +kernel
theorem dX5_knownOutcomes_39 : decode cX5_knownOutcomes 39 = .ok (.getfield 38, 3) := by decide +kernel
theorem dX5_knownOutcomes_42 : decode cX5_knownOutcomes 42 = .ok (.areturn, 1) := by decide +kernel
theorem dX5_cellsOfKind_0 : decode cX5_cellsOfKind 0 = .ok (.iconst 0, 1) := by decide +kernel
theorem dX5_cellsOfKind_1 : decode cX5_cellsOfKind 1 = .ok (.istore_n 2, 1) := by decide +kernel
theorem dX5_cellsOfKind_2 : decode cX5_cellsOfKind 2 = .ok (.iconst 0, 1) := by decide +kernel
theorem dX5_cellsOfKind_3 : decode cX5_cellsOfKind 3 = .ok (.istore_n 3, 1) := by decide +kernel
theorem dX5_cellsOfKind_4 : decode cX5_cellsOfKind 4 = .ok (.iload_n 3, 1) := by decide +kernel
theorem dX5_cellsOfKind_5 : decode cX5_cellsOfKind 5 = .ok (.bipush 6, 2) := by decide +kernel
theorem dX5_cellsOfKind_7 : decode cX5_cellsOfKind 7 = .ok (.if_icmp .ge 25, 3) := by decide +kernel
theorem dX5_cellsOfKind_10 : decode cX5_cellsOfKind 10 = .ok (.aload_n 0, 1) := by decide +kernel
theorem dX5_cellsOfKind_11 : decode cX5_cellsOfKind 11 = .ok (.getfield 9, 3) := by decide +kernel
theorem dX5_cellsOfKind_14 : decode cX5_cellsOfKind 14 = .ok (.iload_n 3, 1) := by decide +kernel
theorem dX5_cellsOfKind_15 : decode cX5_cellsOfKind 15 = .ok (.iaload, 1) := by decide +kernel
theorem dX5_cellsOfKind_16 : decode cX5_cellsOfKind 16 = .ok (.iload_n 1, 1) := by decide +kernel
theorem dX5_cellsOfKind_17 : decode cX5_cellsOfKind 17 = .ok (.if_icmp .ne 9, 3) := by decide +kernel
theorem dX5_cellsOfKind_20 : decode cX5_cellsOfKind 20 = .ok (.iload_n 2, 1) := by decide +kernel
theorem dX5_cellsOfKind_21 : decode cX5_cellsOfKind 21 = .ok (.iconst 1, 1) := by decide +kernel
theorem dX5_cellsOfKind_22 : decode cX5_cellsOfKind 22 = .ok (.iload_n 3, 1) := by decide +kernel
theorem dX5_cellsOfKind_23 : decode cX5_cellsOfKind 23 = .ok (.ishl, 1) := by decide +kernel
theorem dX5_cellsOfKind_24 : decode cX5_cellsOfKind 24 = .ok (.ior, 1) := by decide +kernel
theorem dX5_cellsOfKind_25 : decode cX5_cellsOfKind 25 = .ok (.istore_n 2, 1) := by decide +kernel
theorem dX5_cellsOfKind_26 : decode cX5_cellsOfKind 26 = .ok (.iinc 3 1, 3) := by decide +kernel
theorem dX5_cellsOfKind_29 : decode cX5_cellsOfKind 29 = .ok (.goto (-25), 3) := by decide +kernel
theorem dX5_cellsOfKind_32 : decode cX5_cellsOfKind 32 = .ok (.iload_n 2, 1) := by decide +kernel
theorem dX5_cellsOfKind_33 : decode cX5_cellsOfKind 33 = .ok (.ireturn, 1) := by decide +kernel
theorem dX5_declaredCells_0 : decode cX5_declaredCells 0 = .ok (.bipush 6, 2) := by decide +kernel
theorem dX5_declaredCells_2 : decode cX5_declaredCells 2 = .ok (.aload_n 0, 1) := by decide +kernel
theorem dX5_declaredCells_3 : decode cX5_declaredCells 3 = .ok (.iconst (-1), 1) := by decide +kernel
theorem dX5_declaredCells_4 : decode cX5_declaredCells 4 = .ok (.invokevirtual 51, 3) := by decide +kernel
theorem dX5_declaredCells_7 : decode cX5_declaredCells 7 = .ok (.invokestatic 55, 3) := by decide +kernel
theorem dX5_declaredCells_10 : decode cX5_declaredCells 10 = .ok (.isub, 1) := by decide +kernel
theorem dX5_declaredCells_11 : decode cX5_declaredCells 11 = .ok (.ireturn, 1) := by decide +kernel
theorem dX5_init_0 : decode cX5_init 0 = .ok (.aload_n 0, 1) := by decide +kernel
theorem dX5_init_1 : decode cX5_init 1 = .ok (.invokespecial 3, 3) := by decide +kernel
theorem dX5_init_4 : decode cX5_init 4 = .ok (.aload_n 0, 1) := by decide +kernel
theorem dX5_init_5 : decode cX5_init 5 = .ok (.bipush 8, 2) := by decide +kernel
theorem dX5_init_7 : decode cX5_init 7 = .ok (.newarray .int, 2) := by decide +kernel
theorem dX5_init_9 : decode cX5_init 9 = .ok (.putfield 9, 3) := by decide +kernel
theorem dX5_init_12 : decode cX5_init 12 = .ok (.aload_n 0, 1) := by decide +kernel
theorem dX5_init_13 : decode cX5_init 13 = .ok (.lconst 0, 1) := by decide +kernel
theorem dX5_init_14 : decode cX5_init 14 = .ok (.putfield 15, 3) := by decide +kernel
theorem dX5_init_17 : decode cX5_init 17 = .ok (.aload_n 0, 1) := by decide +kernel
theorem dX5_init_18 : decode cX5_init 18 = .ok (.lconst 0, 1) := by decide +kernel
theorem dX5_init_19 : decode cX5_init 19 = .ok (.putfield 19, 3) := by decide +kernel
theorem dX5_init_22 : decode cX5_init 22 = .ok (.aload_n 0, 1) := by decide +kernel
theorem dX5_init_23 : decode cX5_init 23 = .ok (.lconst 0, 1) := by decide +kernel
theorem dX5_init_24 : decode cX5_init 24 = .ok (.putfield 22, 3) := by decide +kernel
theorem dX5_init_27 : decode cX5_init 27 = .ok (.aload_n 0, 1) := by decide +kernel
theorem dX5_init_28 : decode cX5_init 28 = .ok (.lconst 0, 1) := by decide +kernel
theorem dX5_init_29 : decode cX5_init 29 = .ok (.putfield 25, 3) := by decide +kernel
theorem dX5_init_32 : decode cX5_init 32 = .ok (.aload_n 0, 1) := by decide +kernel
theorem dX5_init_33 : decode cX5_init 33 = .ok (.iconst 0, 1) := by decide +kernel
theorem dX5_init_34 : decode cX5_init 34 = .ok (.putfield 28, 3) := by decide +kernel
theorem dX5_init_37 : decode cX5_init 37 = .ok (.aload_n 0, 1) := by decide +kernel
theorem dX5_init_38 : decode cX5_init 38 = .ok (.aconst_null, 1) := by decide +kernel
theorem dX5_init_39 : decode cX5_init 39 = .ok (.putfield 32, 3) := by decide +kernel
theorem dX5_init_42 : decode cX5_init 42 = .ok (.aload_n 0, 1) := by decide +kernel
theorem dX5_init_43 : decode cX5_init 43 = .ok (.aconst_null, 1) := by decide +kernel
theorem dX5_init_44 : decode cX5_init 44 = .ok (.putfield 35, 3) := by decide +kernel
theorem dX5_init_47 : decode cX5_init 47 = .ok (.aload_n 0, 1) := by decide +kernel
theorem dX5_init_48 : decode cX5_init 48 = .ok (.aconst_null, 1) := by decide +kernel
theorem dX5_init_49 : decode cX5_init 49 = .ok (.putfield 38, 3) := by decide +kernel
theorem dX5_init_52 : decode cX5_init 52 = .ok (.aload_n 0, 1) := by decide +kernel
theorem dX5_init_53 : decode cX5_init 53 = .ok (.aload_n 1, 1) := by decide +kernel
theorem dX5_init_54 : decode cX5_init 54 = .ok (.putfield 41, 3) := by decide +kernel
theorem dX5_init_57 : decode cX5_init 57 = .ok (.aload_n 0, 1) := by decide +kernel
theorem dX5_init_58 : decode cX5_init 58 = .ok (.getfield 9, 3) := by decide +kernel
theorem dX5_init_61 : decode cX5_init 61 = .ok (.iconst (-1), 1) := by decide +kernel
theorem dX5_init_62 : decode cX5_init 62 = .ok (.invokestatic 45, 3) := by decide +kernel
theorem dX5_init_65 : decode cX5_init 65 = .ok (.return_, 1) := by decide +kernel
theorem dX5_withVolatile_0 : decode cX5_withVolatile 0 = .ok (.new 10, 3) := by decide +kernel
theorem dX5_withVolatile_3 : decode cX5_withVolatile 3 = .ok (.dup, 1) := by decide +kernel
theorem dX5_withVolatile_4 : decode cX5_withVolatile 4 = .ok (.aload_n 0, 1) := by decide +kernel
theorem dX5_withVolatile_5 : decode cX5_withVolatile 5 = .ok (.getfield 41, 3) := by decide +kernel
theorem dX5_withVolatile_8 : decode cX5_withVolatile 8 = .ok (.invokespecial 60, 3) := by decide +kernel
theorem dX5_withVolatile_11 : decode cX5_withVolatile 11 = .ok (.astore_n 2, 1) := by decide +kernel
theorem dX5_withVolatile_12 : decode cX5_withVolatile 12 = .ok (.iconst 0, 1) := by decide +kernel
theorem dX5_withVolatile_13 : decode cX5_withVolatile 13 = .ok (.istore_n 3, 1) := by decide +kernel
theorem dX5_withVolatile_14 : decode cX5_withVolatile 14 = .ok (.iload_n 3, 1) := by decide +kernel
theorem dX5_withVolatile_15 : decode cX5_withVolatile 15 = .ok (.bipush 6, 2) := by decide +kernel
theorem dX5_withVolatile_17 : decode cX5_withVolatile 17 = .ok (.if_icmp .ge 33, 3) := by decide +kernel
theorem dX5_withVolatile_20 : decode cX5_withVolatile 20 = .ok (.aload_n 2, 1) := by decide +kernel
theorem dX5_withVolatile_21 : decode cX5_withVolatile 21 = .ok (.getfield 9, 3) := by decide +kernel
theorem dX5_withVolatile_24 : decode cX5_withVolatile 24 = .ok (.iload_n 3, 1) := by decide +kernel
theorem dX5_withVolatile_25 : decode cX5_withVolatile 25 = .ok (.iload_n 1, 1) := by decide +kernel
theorem dX5_withVolatile_26 : decode cX5_withVolatile 26 = .ok (.iload_n 3, 1) := by decide +kernel
theorem dX5_withVolatile_27 : decode cX5_withVolatile 27 = .ok (.ishr, 1) := by decide +kernel
theorem dX5_withVolatile_28 : decode cX5_withVolatile 28 = .ok (.iconst 1, 1) := by decide +kernel
theorem dX5_withVolatile_29 : decode cX5_withVolatile 29 = .ok (.iand, 1) := by decide +kernel
theorem dX5_withVolatile_30 : decode cX5_withVolatile 30 = .ok (.ifCond .eq 7, 3) := by decide +kernel
theorem dX5_withVolatile_33 : decode cX5_withVolatile 33 = .ok (.iconst 1, 1) := by decide +kernel
theorem dX5_withVolatile_34 : decode cX5_withVolatile 34 = .ok (.goto 9, 3) := by decide +kernel
theorem dX5_withVolatile_37 : decode cX5_withVolatile 37 = .ok (.aload_n 0, 1) := by decide +kernel
theorem dX5_withVolatile_38 : decode cX5_withVolatile 38 = .ok (.getfield 9, 3) := by decide +kernel
theorem dX5_withVolatile_41 : decode cX5_withVolatile 41 = .ok (.iload_n 3, 1) := by decide +kernel
theorem dX5_withVolatile_42 : decode cX5_withVolatile 42 = .ok (.iaload, 1) := by decide +kernel
theorem dX5_withVolatile_43 : decode cX5_withVolatile 43 = .ok (.iastore, 1) := by decide +kernel
theorem dX5_withVolatile_44 : decode cX5_withVolatile 44 = .ok (.iinc 3 1, 3) := by decide +kernel
theorem dX5_withVolatile_47 : decode cX5_withVolatile 47 = .ok (.goto (-33), 3) := by decide +kernel
theorem dX5_withVolatile_50 : decode cX5_withVolatile 50 = .ok (.aload_n 2, 1) := by decide +kernel
theorem dX5_withVolatile_51 : decode cX5_withVolatile 51 = .ok (.areturn, 1) := by decide +kernel
theorem kn_X5_keepOutcomes : Kn yX5_keepOutcomes cX5_keepOutcomes 3 none 2 := ⟨wm_225, wm_226, by decide +kernel, by decide⟩
theorem kn_X5_knownOutcomes : Kn yX5_knownOutcomes cX5_knownOutcomes 2 (some (.array .int)) 1 := ⟨wm_230, wm_226, by decide +kernel, by decide⟩
theorem kn_X5_cellsOfKind : Kn yX5_cellsOfKind cX5_cellsOfKind 4 (some .int) 1 := ⟨wm_235, wm_226, by decide +kernel, by decide⟩
theorem kn_X5_declaredCells : Kn yX5_declaredCells cX5_declaredCells 1 (some .int) 0 := ⟨wm_970, wm_226, by decide +kernel, by decide⟩
theorem kn_X5_init : Kn yX5_init cX5_init 2 none 1 := ⟨wm_974, wm_226, by decide +kernel, by decide⟩
theorem kn_X5_withVolatile : Kn yX5_withVolatile cX5_withVolatile 4 (some (.object "LitmusHouse$Program")) 1 := ⟨wm_983, wm_226, by decide +kernel, by decide⟩
/-! ===== LitmusHouse$Program.keepOutcomes(I[I)V ===== -/
def b_X5_keepOutcomes_49  (h : AH) : Option (AH) :=
  some h
set_option maxHeartbeats 4000000 in
set_option maxRecDepth 100000 in
theorem q_X5_keepOutcomes_49 {h hE : AH} (hf : b_X5_keepOutcomes_49  h = some hE) : JD cX5_keepOutcomes 3 RX5 "keepOutcomes" none (2) 49 [] [] h hE none := by
  unfold b_X5_keepOutcomes_49 at hf
  have hh := Option.some.inj hf
  subst hh
  have mE : hp_n h ≤ hp_n h ∧ hp_s h ≤ hp_s h := ⟨Nat.le_refl _, Nat.le_refl _⟩
  refine ⟨by omega, fun X g K ok nmx lev hK en => ?_⟩
  exact tj_return ok en dX5_keepOutcomes_49
def b_X5_keepOutcomes_28 (a0 : Nat) (a2 : Nat) (h : AH) : Option (AH) :=
  (p_r h a0 5 7 a2).bind fun h1 => b_X5_keepOutcomes_49 h1
set_option maxHeartbeats 4000000 in
set_option maxRecDepth 100000 in
theorem q_X5_keepOutcomes_28 {a0 : Nat} {a2 : Nat} {h hE : AH} (hf : b_X5_keepOutcomes_28 a0 a2 h = some hE) : JD cX5_keepOutcomes 3 RX5 "keepOutcomes" none (2) 28 [(0, .inr (.inr (a0))), (2, .inr (.inr (a2)))] [] h hE none := by
  unfold b_X5_keepOutcomes_28 at hf
  obtain ⟨h1, e1, hf⟩ := bnd hf
  have m1 := nn_pr e1
  have J := q_X5_keepOutcomes_49 hf
  have mE := J.1
  refine ⟨by omega, fun X g K ok nmx lev hK en => ?_⟩
  refine tj_aload_n ok 0 dX5_keepOutcomes_28 rfl rfl ?_
  refine tj_aload_n ok 1 dX5_keepOutcomes_29 rfl rfl ?_
  refine tj_putR (k := 7) ok fcX5 (by decide) wm_227 rfl (Or.inl rfl) (Or.inr ⟨_, rfl⟩) dX5_keepOutcomes_30 e1 ?_
  refine tj_goto (tgt := 49) ok dX5_keepOutcomes_33 (by decide) ?_
  refine tj_sub (lv' := []) [] rfl ?_
  exact J.2 X g K ok nmx lev hK en
def b_X5_keepOutcomes_36 (a0 : Nat) (a2 : Nat) (h : AH) : Option (AH) :=
  (p_r h a0 5 8 a2).bind fun h1 => b_X5_keepOutcomes_49 h1
set_option maxHeartbeats 4000000 in
set_option maxRecDepth 100000 in
theorem q_X5_keepOutcomes_36 {a0 : Nat} {a2 : Nat} {h hE : AH} (hf : b_X5_keepOutcomes_36 a0 a2 h = some hE) : JD cX5_keepOutcomes 3 RX5 "keepOutcomes" none (2) 36 [(0, .inr (.inr (a0))), (2, .inr (.inr (a2)))] [] h hE none := by
  unfold b_X5_keepOutcomes_36 at hf
  obtain ⟨h1, e1, hf⟩ := bnd hf
  have m1 := nn_pr e1
  have J := q_X5_keepOutcomes_49 hf
  have mE := J.1
  refine ⟨by omega, fun X g K ok nmx lev hK en => ?_⟩
  refine tj_aload_n ok 0 dX5_keepOutcomes_36 rfl rfl ?_
  refine tj_aload_n ok 1 dX5_keepOutcomes_37 rfl rfl ?_
  refine tj_putR (k := 8) ok fcX5 (by decide) wm_228 rfl (Or.inl rfl) (Or.inr ⟨_, rfl⟩) dX5_keepOutcomes_38 e1 ?_
  refine tj_goto (tgt := 49) ok dX5_keepOutcomes_41 (by decide) ?_
  refine tj_sub (lv' := []) [] rfl ?_
  exact J.2 X g K ok nmx lev hK en
def b_X5_keepOutcomes_44 (a0 : Nat) (a2 : Nat) (h : AH) : Option (AH) :=
  (p_r h a0 5 9 a2).bind fun h1 => b_X5_keepOutcomes_49 h1
set_option maxHeartbeats 4000000 in
set_option maxRecDepth 100000 in
theorem q_X5_keepOutcomes_44 {a0 : Nat} {a2 : Nat} {h hE : AH} (hf : b_X5_keepOutcomes_44 a0 a2 h = some hE) : JD cX5_keepOutcomes 3 RX5 "keepOutcomes" none (2) 44 [(0, .inr (.inr (a0))), (2, .inr (.inr (a2)))] [] h hE none := by
  unfold b_X5_keepOutcomes_44 at hf
  obtain ⟨h1, e1, hf⟩ := bnd hf
  have m1 := nn_pr e1
  have J := q_X5_keepOutcomes_49 hf
  have mE := J.1
  refine ⟨by omega, fun X g K ok nmx lev hK en => ?_⟩
  refine tj_aload_n ok 0 dX5_keepOutcomes_44 rfl rfl ?_
  refine tj_aload_n ok 1 dX5_keepOutcomes_45 rfl rfl ?_
  refine tj_putR (k := 9) ok fcX5 (by decide) wm_229 rfl (Or.inl rfl) (Or.inr ⟨_, rfl⟩) dX5_keepOutcomes_46 e1 ?_
  refine tj_sub (lv' := []) [] rfl ?_
  exact J.2 X g K ok nmx lev hK en
def b_X5_keepOutcomes_0 (a0 : Nat) (a1 : Int32) (a2 : Nat) (h : AH) : Option (AH) :=
  if a1 = 0 then b_X5_keepOutcomes_28 a0 a2 h else if a1 = 1 then b_X5_keepOutcomes_36 a0 a2 h else b_X5_keepOutcomes_44 a0 a2 h
set_option maxHeartbeats 4000000 in
set_option maxRecDepth 100000 in
theorem q_X5_keepOutcomes_0 {a0 : Nat} {a1 : Int32} {a2 : Nat} {h hE : AH} (hf : b_X5_keepOutcomes_0 a0 a1 a2 h = some hE) : JD cX5_keepOutcomes 3 RX5 "keepOutcomes" none (2) 0 [(0, .inr (.inr (a0))), (1, .inl (a1)), (2, .inr (.inr (a2)))] [] h hE none := by
  unfold b_X5_keepOutcomes_0 at hf
  have mE : hp_n h ≤ hp_n hE ∧ hp_s h ≤ hp_s hE := by
    by_cases hc0 : a1 = 0
    · rw [if_pos hc0] at hf; exact (q_X5_keepOutcomes_28 hf).1
    rw [if_neg hc0] at hf
    by_cases hc1 : a1 = 1
    · rw [if_pos hc1] at hf; exact (q_X5_keepOutcomes_36 hf).1
    rw [if_neg hc1] at hf
    exact (q_X5_keepOutcomes_44 hf).1
  refine ⟨by omega, fun X g K ok nmx lev hK en => ?_⟩
  refine tj_iload_n ok 1 dX5_keepOutcomes_0 rfl rfl ?_
  by_cases hc0 : a1 = 0
  · rw [if_pos hc0] at hf
    have hx : (a1).toInt = 0 := by rw [hc0]; decide
    refine tj_lookup (off := 27) (tgt := 28) ok dX5_keepOutcomes_1 (by decide) (by rw [hx]; decide) (by decide) ?_
    refine tj_sub (lv' := [(0, .inr (.inr (a0))), (2, .inr (.inr (a2)))]) [0, 2] rfl ?_
    exact (q_X5_keepOutcomes_28 hf).2 X g K ok nmx lev hK en
  rw [if_neg hc0] at hf
  have hn0 := tn_i (n := 0) (by decide) hc0
  have hp0 := tn_j hn0
  by_cases hc1 : a1 = 1
  · rw [if_pos hc1] at hf
    have hx : (a1).toInt = 1 := by rw [hc1]; decide
    refine tj_lookup (off := 35) (tgt := 36) ok dX5_keepOutcomes_1 (by decide) (by rw [hx]; decide) (by decide) ?_
    refine tj_sub (lv' := [(0, .inr (.inr (a0))), (2, .inr (.inr (a2)))]) [0, 2] rfl ?_
    exact (q_X5_keepOutcomes_36 hf).2 X g K ok nmx lev hK en
  rw [if_neg hc1] at hf
  have hn1 := tn_i (n := 1) (by decide) hc1
  have hp1 := tn_j hn1
  refine tj_lookup (off := 43) (tgt := 44) ok dX5_keepOutcomes_1 (by decide) (by show Op.lookupswitch.offset [(0, 27), (1, 35)] (43) _ = _; simp only [Op.lookupswitch.offset, hp0, hp1, if_false]) (by decide) ?_
  refine tj_sub (lv' := [(0, .inr (.inr (a0))), (2, .inr (.inr (a2)))]) [0, 2] rfl ?_
  exact (q_X5_keepOutcomes_44 hf).2 X g K ok nmx lev hK en
def f_X5_keepOutcomes (a0 : Nat) (a1 : Int32) (a2 : Nat) (h : AH) : Option (AH) := b_X5_keepOutcomes_0  a0 a1 a2 h
theorem c_X5_keepOutcomes {a0 : Nat} {a1 : Int32} {a2 : Nat} {h hE : AH} (hf : f_X5_keepOutcomes a0 a1 a2 h = some hE) : ∀ g : GT, CM g (2) yX5_keepOutcomes cX5_keepOutcomes 3 none h [.inr (.inr (a0)), .inl (a1), .inr (.inr (a2))] hE none :=
  CM.ofJ (by decide) (by show _ ≤ 3; exact Nat.le_of_ble_eq_true rfl) (q_X5_keepOutcomes_0 hf)
/-! ===== LitmusHouse$Program.knownOutcomes(I)[I ===== -/
def b_X5_knownOutcomes_28 (a0 : Nat) (h : AH) : Option (Nat × AH) :=
  (g_r h a0 5 7).bind fun x1 => some (x1, h)
set_option maxHeartbeats 4000000 in
set_option maxRecDepth 100000 in
theorem q_X5_knownOutcomes_28 {a0 : Nat} {h hE : AH} {v : Nat} (hf : b_X5_knownOutcomes_28 a0 h = some (v, hE)) : JD cX5_knownOutcomes 2 RX5 "knownOutcomes" (some (.array .int)) (2) 28 [(0, .inr (.inr (a0)))] [] h hE (some (.inr (.inr (v)))) := by
  unfold b_X5_knownOutcomes_28 at hf
  obtain ⟨x1, e1, hf⟩ := bnd hf
  obtain ⟨hv, hh⟩ := Prod.mk.inj (Option.some.inj hf)
  subst hv
  subst hh
  have mE : hp_n h ≤ hp_n h ∧ hp_s h ≤ hp_s h := ⟨Nat.le_refl _, Nat.le_refl _⟩
  refine ⟨by omega, fun X g K ok nmx lev hK en => ?_⟩
  refine tj_aload_n ok 0 dX5_knownOutcomes_28 rfl rfl ?_
  refine tj_getR (k := 7) ok fcX5 (by decide) wm_227 rfl (Or.inr ⟨_, rfl⟩) dX5_knownOutcomes_29 e1 ?_
  exact tj_areturn ok (Or.inr ⟨_, rfl⟩) en dX5_knownOutcomes_32
def b_X5_knownOutcomes_33 (a0 : Nat) (h : AH) : Option (Nat × AH) :=
  (g_r h a0 5 8).bind fun x1 => some (x1, h)
set_option maxHeartbeats 4000000 in
set_option maxRecDepth 100000 in
theorem q_X5_knownOutcomes_33 {a0 : Nat} {h hE : AH} {v : Nat} (hf : b_X5_knownOutcomes_33 a0 h = some (v, hE)) : JD cX5_knownOutcomes 2 RX5 "knownOutcomes" (some (.array .int)) (2) 33 [(0, .inr (.inr (a0)))] [] h hE (some (.inr (.inr (v)))) := by
  unfold b_X5_knownOutcomes_33 at hf
  obtain ⟨x1, e1, hf⟩ := bnd hf
  obtain ⟨hv, hh⟩ := Prod.mk.inj (Option.some.inj hf)
  subst hv
  subst hh
  have mE : hp_n h ≤ hp_n h ∧ hp_s h ≤ hp_s h := ⟨Nat.le_refl _, Nat.le_refl _⟩
  refine ⟨by omega, fun X g K ok nmx lev hK en => ?_⟩
  refine tj_aload_n ok 0 dX5_knownOutcomes_33 rfl rfl ?_
  refine tj_getR (k := 8) ok fcX5 (by decide) wm_228 rfl (Or.inr ⟨_, rfl⟩) dX5_knownOutcomes_34 e1 ?_
  exact tj_areturn ok (Or.inr ⟨_, rfl⟩) en dX5_knownOutcomes_37
def b_X5_knownOutcomes_38 (a0 : Nat) (h : AH) : Option (Nat × AH) :=
  (g_r h a0 5 9).bind fun x1 => some (x1, h)
set_option maxHeartbeats 4000000 in
set_option maxRecDepth 100000 in
theorem q_X5_knownOutcomes_38 {a0 : Nat} {h hE : AH} {v : Nat} (hf : b_X5_knownOutcomes_38 a0 h = some (v, hE)) : JD cX5_knownOutcomes 2 RX5 "knownOutcomes" (some (.array .int)) (2) 38 [(0, .inr (.inr (a0)))] [] h hE (some (.inr (.inr (v)))) := by
  unfold b_X5_knownOutcomes_38 at hf
  obtain ⟨x1, e1, hf⟩ := bnd hf
  obtain ⟨hv, hh⟩ := Prod.mk.inj (Option.some.inj hf)
  subst hv
  subst hh
  have mE : hp_n h ≤ hp_n h ∧ hp_s h ≤ hp_s h := ⟨Nat.le_refl _, Nat.le_refl _⟩
  refine ⟨by omega, fun X g K ok nmx lev hK en => ?_⟩
  refine tj_aload_n ok 0 dX5_knownOutcomes_38 rfl rfl ?_
  refine tj_getR (k := 9) ok fcX5 (by decide) wm_229 rfl (Or.inr ⟨_, rfl⟩) dX5_knownOutcomes_39 e1 ?_
  exact tj_areturn ok (Or.inr ⟨_, rfl⟩) en dX5_knownOutcomes_42
def b_X5_knownOutcomes_0 (a0 : Nat) (a1 : Int32) (h : AH) : Option (Nat × AH) :=
  if a1 = 0 then b_X5_knownOutcomes_28 a0 h else if a1 = 1 then b_X5_knownOutcomes_33 a0 h else b_X5_knownOutcomes_38 a0 h
set_option maxHeartbeats 4000000 in
set_option maxRecDepth 100000 in
theorem q_X5_knownOutcomes_0 {a0 : Nat} {a1 : Int32} {h hE : AH} {v : Nat} (hf : b_X5_knownOutcomes_0 a0 a1 h = some (v, hE)) : JD cX5_knownOutcomes 2 RX5 "knownOutcomes" (some (.array .int)) (2) 0 [(0, .inr (.inr (a0))), (1, .inl (a1))] [] h hE (some (.inr (.inr (v)))) := by
  unfold b_X5_knownOutcomes_0 at hf
  have mE : hp_n h ≤ hp_n hE ∧ hp_s h ≤ hp_s hE := by
    by_cases hc0 : a1 = 0
    · rw [if_pos hc0] at hf; exact (q_X5_knownOutcomes_28 hf).1
    rw [if_neg hc0] at hf
    by_cases hc1 : a1 = 1
    · rw [if_pos hc1] at hf; exact (q_X5_knownOutcomes_33 hf).1
    rw [if_neg hc1] at hf
    exact (q_X5_knownOutcomes_38 hf).1
  refine ⟨by omega, fun X g K ok nmx lev hK en => ?_⟩
  refine tj_iload_n ok 1 dX5_knownOutcomes_0 rfl rfl ?_
  by_cases hc0 : a1 = 0
  · rw [if_pos hc0] at hf
    have hx : (a1).toInt = 0 := by rw [hc0]; decide
    refine tj_lookup (off := 27) (tgt := 28) ok dX5_knownOutcomes_1 (by decide) (by rw [hx]; decide) (by decide) ?_
    refine tj_sub (lv' := [(0, .inr (.inr (a0)))]) [0] rfl ?_
    exact (q_X5_knownOutcomes_28 hf).2 X g K ok nmx lev hK en
  rw [if_neg hc0] at hf
  have hn0 := tn_i (n := 0) (by decide) hc0
  have hp0 := tn_j hn0
  by_cases hc1 : a1 = 1
  · rw [if_pos hc1] at hf
    have hx : (a1).toInt = 1 := by rw [hc1]; decide
    refine tj_lookup (off := 32) (tgt := 33) ok dX5_knownOutcomes_1 (by decide) (by rw [hx]; decide) (by decide) ?_
    refine tj_sub (lv' := [(0, .inr (.inr (a0)))]) [0] rfl ?_
    exact (q_X5_knownOutcomes_33 hf).2 X g K ok nmx lev hK en
  rw [if_neg hc1] at hf
  have hn1 := tn_i (n := 1) (by decide) hc1
  have hp1 := tn_j hn1
  refine tj_lookup (off := 37) (tgt := 38) ok dX5_knownOutcomes_1 (by decide) (by show Op.lookupswitch.offset [(0, 27), (1, 32)] (37) _ = _; simp only [Op.lookupswitch.offset, hp0, hp1, if_false]) (by decide) ?_
  refine tj_sub (lv' := [(0, .inr (.inr (a0)))]) [0] rfl ?_
  exact (q_X5_knownOutcomes_38 hf).2 X g K ok nmx lev hK en
def f_X5_knownOutcomes (a0 : Nat) (a1 : Int32) (h : AH) : Option (Nat × AH) := b_X5_knownOutcomes_0  a0 a1 h
theorem c_X5_knownOutcomes {a0 : Nat} {a1 : Int32} {h hE : AH} {v : Nat} (hf : f_X5_knownOutcomes a0 a1 h = some (v, hE)) : ∀ g : GT, CM g (2) yX5_knownOutcomes cX5_knownOutcomes 2 (some (.array .int)) h [.inr (.inr (a0)), .inl (a1)] hE (some (.inr (.inr (v)))) :=
  CM.ofJ (by decide) (by show _ ≤ 2; exact Nat.le_of_ble_eq_true rfl) (q_X5_knownOutcomes_0 hf)
/-! ===== LitmusHouse$Program.cellsOfKind(I)I ===== -/
def b_X5_cellsOfKind_32 (a2 : Int32) (h : AH) : Option (Int32 × AH) :=
  some (a2, h)
set_option maxHeartbeats 4000000 in
set_option maxRecDepth 100000 in
theorem q_X5_cellsOfKind_32 {a2 : Int32} {h hE : AH} {v : Int32} (hf : b_X5_cellsOfKind_32 a2 h = some (v, hE)) : JD cX5_cellsOfKind 4 RX5 "cellsOfKind" (some .int) (2) 32 [(2, .inl (a2))] [] h hE (some (.inl (v))) := by
  unfold b_X5_cellsOfKind_32 at hf
  obtain ⟨hv, hh⟩ := Prod.mk.inj (Option.some.inj hf)
  subst hv
  subst hh
  have mE : hp_n h ≤ hp_n h ∧ hp_s h ≤ hp_s h := ⟨Nat.le_refl _, Nat.le_refl _⟩
  refine ⟨by omega, fun X g K ok nmx lev hK en => ?_⟩
  refine tj_iload_n ok 0 dX5_cellsOfKind_32 rfl rfl ?_
  exact tj_ireturn ok en dX5_cellsOfKind_33
def b_X5_cellsOfKind_26 (r4 : Nat → Int32 → Int32 → Int32 → AH → Option (Int32 × AH)) (a0 : Nat) (a1 : Int32) (a2 : Int32) (a3 : Int32) (h : AH) : Option (Int32 × AH) :=
  r4 a0 a1 a2 (a3 + (1 : Int32)) h
set_option maxHeartbeats 4000000 in
set_option maxRecDepth 100000 in
theorem q_X5_cellsOfKind_26 {hE : AH} {v : Int32} {r4 : Nat → Int32 → Int32 → Int32 → AH → Option (Int32 × AH)} (hr4 : ∀ (b0 : Nat) (b1 : Int32) (b2 : Int32) (b3 : Int32) (h : AH), r4 b0 b1 b2 b3 h = some (v, hE) → JD cX5_cellsOfKind 4 RX5 "cellsOfKind" (some .int) (2) 4 [(0, .inr (.inr (b0))), (1, .inl (b1)), (2, .inl (b2)), (3, .inl (b3))] [] h hE (some (.inl (v)))) {a0 : Nat} {a1 : Int32} {a2 : Int32} {a3 : Int32} {h : AH} (hf : b_X5_cellsOfKind_26 r4 a0 a1 a2 a3 h = some (v, hE)) : JD cX5_cellsOfKind 4 RX5 "cellsOfKind" (some .int) (2) 26 [(0, .inr (.inr (a0))), (1, .inl (a1)), (2, .inl (a2)), (3, .inl (a3))] [] h hE (some (.inl (v))) := by
  unfold b_X5_cellsOfKind_26 at hf
  have J := hr4 _ _ _ _ _ hf
  have mE := J.1
  refine ⟨by omega, fun X g K ok nmx lev hK en => ?_⟩
  refine tj_iinc (lv' := [(0, .inr (.inr (a0))), (1, .inl (a1)), (2, .inl (a2)), (3, .inl (a3 + (1 : Int32)))]) ok 3 dX5_cellsOfKind_26 rfl (rfl) (by decide) rfl ?_
  refine tj_goto (tgt := 4) ok dX5_cellsOfKind_29 (by decide) ?_
  exact J.2 X g K ok nmx lev hK en
def b_X5_cellsOfKind_20 (r4 : Nat → Int32 → Int32 → Int32 → AH → Option (Int32 × AH)) (a0 : Nat) (a1 : Int32) (a2 : Int32) (a3 : Int32) (h : AH) : Option (Int32 × AH) :=
  b_X5_cellsOfKind_26 r4 a0 a1 (a2 ||| ((1 : Int32) <<< (a3 &&& 31))) a3 h
set_option maxHeartbeats 4000000 in
set_option maxRecDepth 100000 in
theorem q_X5_cellsOfKind_20 {hE : AH} {v : Int32} {r4 : Nat → Int32 → Int32 → Int32 → AH → Option (Int32 × AH)} (hr4 : ∀ (b0 : Nat) (b1 : Int32) (b2 : Int32) (b3 : Int32) (h : AH), r4 b0 b1 b2 b3 h = some (v, hE) → JD cX5_cellsOfKind 4 RX5 "cellsOfKind" (some .int) (2) 4 [(0, .inr (.inr (b0))), (1, .inl (b1)), (2, .inl (b2)), (3, .inl (b3))] [] h hE (some (.inl (v)))) {a0 : Nat} {a1 : Int32} {a2 : Int32} {a3 : Int32} {h : AH} (hf : b_X5_cellsOfKind_20 r4 a0 a1 a2 a3 h = some (v, hE)) : JD cX5_cellsOfKind 4 RX5 "cellsOfKind" (some .int) (2) 20 [(0, .inr (.inr (a0))), (1, .inl (a1)), (2, .inl (a2)), (3, .inl (a3))] [] h hE (some (.inl (v))) := by
  unfold b_X5_cellsOfKind_20 at hf
  have J := q_X5_cellsOfKind_26 hr4 hf
  have mE := J.1
  refine ⟨by omega, fun X g K ok nmx lev hK en => ?_⟩
  refine tj_iload_n ok 2 dX5_cellsOfKind_20 rfl rfl ?_
  refine tj_iconst (v := 1) ok dX5_cellsOfKind_21 (by decide) ?_
  refine tj_iload_n ok 3 dX5_cellsOfKind_22 rfl rfl ?_
  refine tj_ishl ok dX5_cellsOfKind_23 ?_
  refine tj_ior ok dX5_cellsOfKind_24 ?_
  refine tj_istore_n (lv' := [(0, .inr (.inr (a0))), (1, .inl (a1)), (2, .inl (a2 ||| ((1 : Int32) <<< (a3 &&& 31)))), (3, .inl (a3))]) ok dX5_cellsOfKind_25 rfl (by decide) rfl ?_
  exact J.2 X g K ok nmx lev hK en
def b_X5_cellsOfKind_10 (r4 : Nat → Int32 → Int32 → Int32 → AH → Option (Int32 × AH)) (a0 : Nat) (a1 : Int32) (a2 : Int32) (a3 : Int32) (h : AH) : Option (Int32 × AH) :=
  (g_r h a0 5 1).bind fun x1 => (l_i h x1 a3).bind fun x2 => if x2 = a1 then b_X5_cellsOfKind_20 r4 a0 a1 a2 a3 h else b_X5_cellsOfKind_26 r4 a0 a1 a2 a3 h
set_option maxHeartbeats 4000000 in
set_option maxRecDepth 100000 in
theorem q_X5_cellsOfKind_10 {hE : AH} {v : Int32} {r4 : Nat → Int32 → Int32 → Int32 → AH → Option (Int32 × AH)} (hr4 : ∀ (b0 : Nat) (b1 : Int32) (b2 : Int32) (b3 : Int32) (h : AH), r4 b0 b1 b2 b3 h = some (v, hE) → JD cX5_cellsOfKind 4 RX5 "cellsOfKind" (some .int) (2) 4 [(0, .inr (.inr (b0))), (1, .inl (b1)), (2, .inl (b2)), (3, .inl (b3))] [] h hE (some (.inl (v)))) {a0 : Nat} {a1 : Int32} {a2 : Int32} {a3 : Int32} {h : AH} (hf : b_X5_cellsOfKind_10 r4 a0 a1 a2 a3 h = some (v, hE)) : JD cX5_cellsOfKind 4 RX5 "cellsOfKind" (some .int) (2) 10 [(0, .inr (.inr (a0))), (1, .inl (a1)), (2, .inl (a2)), (3, .inl (a3))] [] h hE (some (.inl (v))) := by
  unfold b_X5_cellsOfKind_10 at hf
  obtain ⟨x1, e1, hf⟩ := bnd hf
  obtain ⟨x2, e2, hf⟩ := bnd hf
  have mE : hp_n h ≤ hp_n hE ∧ hp_s h ≤ hp_s hE := by
    by_cases hc : x2 = a1
    · rw [if_pos hc] at hf; exact (q_X5_cellsOfKind_20 hr4 hf).1
    · rw [if_neg hc] at hf; exact (q_X5_cellsOfKind_26 hr4 hf).1
  refine ⟨by omega, fun X g K ok nmx lev hK en => ?_⟩
  refine tj_aload_n ok 0 dX5_cellsOfKind_10 rfl rfl ?_
  refine tj_getR (k := 1) ok fcX5 (by decide) wm_236 rfl (Or.inr ⟨_, rfl⟩) dX5_cellsOfKind_11 e1 ?_
  refine tj_iload_n ok 3 dX5_cellsOfKind_14 rfl rfl ?_
  refine tj_iaload ok dX5_cellsOfKind_15 e2 ?_
  refine tj_iload_n ok 1 dX5_cellsOfKind_16 rfl rfl ?_
  refine tj_icmp_ne (tgt := 26) ok dX5_cellsOfKind_17 (by decide) (fun hc => ?_) (fun hc => ?_)
  · rw [if_neg hc] at hf
    exact (q_X5_cellsOfKind_26 hr4 hf).2 X g K ok nmx lev hK en
  · rw [if_pos hc] at hf
    exact (q_X5_cellsOfKind_20 hr4 hf).2 X g K ok nmx lev hK en
def b_X5_cellsOfKind_4 (r4 : Nat → Int32 → Int32 → Int32 → AH → Option (Int32 × AH)) (a0 : Nat) (a1 : Int32) (a2 : Int32) (a3 : Int32) (h : AH) : Option (Int32 × AH) :=
  if (6 : Int32) ≤ a3 then b_X5_cellsOfKind_32 a2 h else b_X5_cellsOfKind_10 r4 a0 a1 a2 a3 h
set_option maxHeartbeats 4000000 in
set_option maxRecDepth 100000 in
theorem q_X5_cellsOfKind_4 {hE : AH} {v : Int32} {r4 : Nat → Int32 → Int32 → Int32 → AH → Option (Int32 × AH)} (hr4 : ∀ (b0 : Nat) (b1 : Int32) (b2 : Int32) (b3 : Int32) (h : AH), r4 b0 b1 b2 b3 h = some (v, hE) → JD cX5_cellsOfKind 4 RX5 "cellsOfKind" (some .int) (2) 4 [(0, .inr (.inr (b0))), (1, .inl (b1)), (2, .inl (b2)), (3, .inl (b3))] [] h hE (some (.inl (v)))) {a0 : Nat} {a1 : Int32} {a2 : Int32} {a3 : Int32} {h : AH} (hf : b_X5_cellsOfKind_4 r4 a0 a1 a2 a3 h = some (v, hE)) : JD cX5_cellsOfKind 4 RX5 "cellsOfKind" (some .int) (2) 4 [(0, .inr (.inr (a0))), (1, .inl (a1)), (2, .inl (a2)), (3, .inl (a3))] [] h hE (some (.inl (v))) := by
  unfold b_X5_cellsOfKind_4 at hf
  have mE : hp_n h ≤ hp_n hE ∧ hp_s h ≤ hp_s hE := by
    by_cases hc : (6 : Int32) ≤ a3
    · rw [if_pos hc] at hf; exact (q_X5_cellsOfKind_32 hf).1
    · rw [if_neg hc] at hf; exact (q_X5_cellsOfKind_10 hr4 hf).1
  refine ⟨by omega, fun X g K ok nmx lev hK en => ?_⟩
  refine tj_iload_n ok 3 dX5_cellsOfKind_4 rfl rfl ?_
  refine tj_bipush (v := 6) ok dX5_cellsOfKind_5 (by decide) ?_
  refine tj_icmp_ge (tgt := 32) ok dX5_cellsOfKind_7 (by decide) (fun hc => ?_) (fun hc => ?_)
  · rw [if_pos hc] at hf
    refine tj_sub (lv' := [(2, .inl (a2))]) [2] rfl ?_
    exact (q_X5_cellsOfKind_32 hf).2 X g K ok nmx lev hK en
  · rw [if_neg hc] at hf
    exact (q_X5_cellsOfKind_10 hr4 hf).2 X g K ok nmx lev hK en
def l_X5_cellsOfKind_4 : Nat → Nat → Int32 → Int32 → Int32 → AH → Option (Int32 × AH)
  | 0 => fun _ _ _ _ _ => none
  | n + 1 => fun a0 a1 a2 a3 h => b_X5_cellsOfKind_4 (l_X5_cellsOfKind_4 n) a0 a1 a2 a3 h
theorem ql_X5_cellsOfKind_4 {n : Nat} {a0 : Nat} {a1 : Int32} {a2 : Int32} {a3 : Int32} {h hE : AH} {v : Int32} (hf : l_X5_cellsOfKind_4 n a0 a1 a2 a3 h = some (v, hE)) : JD cX5_cellsOfKind 4 RX5 "cellsOfKind" (some .int) (2) 4 [(0, .inr (.inr (a0))), (1, .inl (a1)), (2, .inl (a2)), (3, .inl (a3))] [] h hE (some (.inl (v))) := by
  induction n generalizing a0 a1 a2 a3 h with
  | zero => cases hf
  | succ n ih => exact q_X5_cellsOfKind_4 (fun _ _ _ _ _ hf => ih hf) hf
def b_X5_cellsOfKind_0 (a0 : Nat) (a1 : Int32) (h : AH) : Option (Int32 × AH) :=
  l_X5_cellsOfKind_4 fu_ a0 a1 (0 : Int32) (0 : Int32) h
set_option maxHeartbeats 4000000 in
set_option maxRecDepth 100000 in
theorem q_X5_cellsOfKind_0 {a0 : Nat} {a1 : Int32} {h hE : AH} {v : Int32} (hf : b_X5_cellsOfKind_0 a0 a1 h = some (v, hE)) : JD cX5_cellsOfKind 4 RX5 "cellsOfKind" (some .int) (2) 0 [(0, .inr (.inr (a0))), (1, .inl (a1))] [] h hE (some (.inl (v))) := by
  unfold b_X5_cellsOfKind_0 at hf
  have J := ql_X5_cellsOfKind_4 hf
  have mE := J.1
  refine ⟨by omega, fun X g K ok nmx lev hK en => ?_⟩
  refine tj_iconst (v := 0) ok dX5_cellsOfKind_0 (by decide) ?_
  refine tj_istore_n (lv' := [(0, .inr (.inr (a0))), (1, .inl (a1)), (2, .inl ((0 : Int32)))]) ok dX5_cellsOfKind_1 rfl (by decide) rfl ?_
  refine tj_iconst (v := 0) ok dX5_cellsOfKind_2 (by decide) ?_
  refine tj_istore_n (lv' := [(0, .inr (.inr (a0))), (1, .inl (a1)), (2, .inl ((0 : Int32))), (3, .inl ((0 : Int32)))]) ok dX5_cellsOfKind_3 rfl (by decide) rfl ?_
  exact J.2 X g K ok nmx lev hK en
def f_X5_cellsOfKind (a0 : Nat) (a1 : Int32) (h : AH) : Option (Int32 × AH) := b_X5_cellsOfKind_0  a0 a1 h
theorem c_X5_cellsOfKind {a0 : Nat} {a1 : Int32} {h hE : AH} {v : Int32} (hf : f_X5_cellsOfKind a0 a1 h = some (v, hE)) : ∀ g : GT, CM g (2) yX5_cellsOfKind cX5_cellsOfKind 4 (some .int) h [.inr (.inr (a0)), .inl (a1)] hE (some (.inl (v))) :=
  CM.ofJ (by decide) (by show _ ≤ 4; exact Nat.le_of_ble_eq_true rfl) (q_X5_cellsOfKind_0 hf)
/-! ===== LitmusHouse$Program.declaredCells()I ===== -/
def b_X5_declaredCells_0 (a0 : Nat) (h : AH) : Option (Int32 × AH) :=
  (ok_v h a0 5).bind fun x1 => (f_X5_cellsOfKind a0 (-1 : Int32) h).bind fun q2 => (f_J6_bitCount_0f7a4 q2.1 q2.2).bind fun q3 => some ((6 : Int32) - q3.1, q3.2)
set_option maxHeartbeats 4000000 in
set_option maxRecDepth 100000 in
theorem q_X5_declaredCells_0 {a0 : Nat} {h hE : AH} {v : Int32} (hf : b_X5_declaredCells_0 a0 h = some (v, hE)) : JD cX5_declaredCells 1 RX5 "declaredCells" (some .int) (3) 0 [(0, .inr (.inr (a0)))] [] h hE (some (.inl (v))) := by
  unfold b_X5_declaredCells_0 at hf
  obtain ⟨x1, e1, hf⟩ := bnd hf
  obtain ⟨⟨x2, h2⟩, e2, hf⟩ := bnd hf
  try dsimp only at hf
  have k2 := c_X5_cellsOfKind e2
  have m2 := (k2 default_g).1
  obtain ⟨⟨x3, h3⟩, e3, hf⟩ := bnd hf
  try dsimp only at hf
  have k3 := c_J6_bitCount_0f7a4 e3
  have m3 := (k3 default_g).1
  obtain ⟨hv, hh⟩ := Prod.mk.inj (Option.some.inj hf)
  subst hv
  subst hh
  have mE : hp_n h3 ≤ hp_n h3 ∧ hp_s h3 ≤ hp_s h3 := ⟨Nat.le_refl _, Nat.le_refl _⟩
  refine ⟨by omega, fun X g K ok nmx lev hK en => ?_⟩
  refine tj_bipush (v := 6) ok dX5_declaredCells_0 (by decide) ?_
  refine tj_aload_n ok 0 dX5_declaredCells_2 rfl rfl ?_
  refine tj_iconst (v := -1) ok dX5_declaredCells_3 (by decide) ?_
  refine tj_callV (rest := ([.inl ((6 : Int32))] : List TV).map (vl g)) (as := [.inl ((-1 : Int32))]) ok lev (by omega) fcX5.1 (by decide) rfl (of_if e1).1 (k2 g) (CaX.of en (by omega)) kn_X5_cellsOfKind wm_971 wm_467 wm_468 (rs_ok (Nat.le_of_ble_eq_true rfl)) rfl rfl dX5_declaredCells_4 ?_
  refine tj_callS (rest := ([.inl ((6 : Int32))] : List TV).map (vl g)) (as := [.inl (x2)]) ok lev (by omega) (k3 g) (CaX.of en (by omega)) kn_J6_bitCount_0f7a4 wm_972 wm_973 (rs_ok (Nat.le_of_ble_eq_true rfl)) rfl rfl dX5_declaredCells_7 ?_
  refine tj_isub ok dX5_declaredCells_10 ?_
  exact tj_ireturn ok en dX5_declaredCells_11
def f_X5_declaredCells (a0 : Nat) (h : AH) : Option (Int32 × AH) := b_X5_declaredCells_0  a0 h
theorem c_X5_declaredCells {a0 : Nat} {h hE : AH} {v : Int32} (hf : f_X5_declaredCells a0 h = some (v, hE)) : ∀ g : GT, CM g (3) yX5_declaredCells cX5_declaredCells 1 (some .int) h [.inr (.inr (a0))] hE (some (.inl (v))) :=
  CM.ofJ (by decide) (by show _ ≤ 1; exact Nat.le_of_ble_eq_true rfl) (q_X5_declaredCells_0 hf)
/-! ===== LitmusHouse$Program.<init>(LLitmusHouse$Code;)V ===== -/
def b_X5_init_0 (a0 : Nat) (a1 : Nat) (h : AH) : Option (AH) :=
  (ok_h a0).bind fun x1 => (n_a h 100 (8 : Int32)).bind fun h2 => (p_r h2 a0 5 1 (hp_n h)).bind fun h3 => (p_j h3 a0 5 2 (0 : Int64)).bind fun h4 => (p_j h4 a0 5 3 (0 : Int64)).bind fun h5 => (p_j h5 a0 5 4 (0 : Int64)).bind fun h6 => (p_j h6 a0 5 5 (0 : Int64)).bind fun h7 => (p_z h7 a0 5 6 (0 : Int32)).bind fun h8 => (p_r h8 a0 5 7 0).bind fun h9 => (p_r h9 a0 5 8 0).bind fun h10 => (p_r h10 a0 5 9 0).bind fun h11 => (p_r h11 a0 5 0 a1).bind fun h12 => (g_r h12 a0 5 1).bind fun x13 => (f_J7_fill_53178 x13 (-1 : Int32) h12).bind fun h14 => some h14
set_option maxHeartbeats 4000000 in
set_option maxRecDepth 100000 in
theorem q_X5_init_0 {a0 : Nat} {a1 : Nat} {h hE : AH} (hf : b_X5_init_0 a0 a1 h = some hE) : JD cX5_init 2 RX5 "<init>" none (3) 0 [(0, .inr (.inr (a0))), (1, .inr (.inr (a1)))] [] h hE none := by
  unfold b_X5_init_0 at hf
  obtain ⟨x1, e1, hf⟩ := bnd hf
  obtain ⟨h2, e2, hf⟩ := bnd hf
  have m2 := nn_n e2
  obtain ⟨h3, e3, hf⟩ := bnd hf
  have m3 := nn_pr e3
  obtain ⟨h4, e4, hf⟩ := bnd hf
  have m4 := nn_pj e4
  obtain ⟨h5, e5, hf⟩ := bnd hf
  have m5 := nn_pj e5
  obtain ⟨h6, e6, hf⟩ := bnd hf
  have m6 := nn_pj e6
  obtain ⟨h7, e7, hf⟩ := bnd hf
  have m7 := nn_pj e7
  obtain ⟨h8, e8, hf⟩ := bnd hf
  have m8 := nn_pz e8
  obtain ⟨h9, e9, hf⟩ := bnd hf
  have m9 := nn_pr e9
  obtain ⟨h10, e10, hf⟩ := bnd hf
  have m10 := nn_pr e10
  obtain ⟨h11, e11, hf⟩ := bnd hf
  have m11 := nn_pr e11
  obtain ⟨h12, e12, hf⟩ := bnd hf
  have m12 := nn_pr e12
  obtain ⟨x13, e13, hf⟩ := bnd hf
  obtain ⟨h14, e14, hf⟩ := bnd hf
  have k14 := c_J7_fill_53178 e14
  have m14 := (k14 default_g).1
  have hh := Option.some.inj hf
  subst hh
  have mE : hp_n h14 ≤ hp_n h14 ∧ hp_s h14 ≤ hp_s h14 := ⟨Nat.le_refl _, Nat.le_refl _⟩
  refine ⟨by omega, fun X g K ok nmx lev hK en => ?_⟩
  refine tj_aload_n ok 0 dX5_init_0 rfl rfl ?_
  refine tj_objInit (rest := ([] : List TV).map (vl g)) ok lev (by omega) (of_if e1).1 wm_975 wm_75 wm_obj (rs_ok (Nat.le_of_ble_eq_true rfl)) dX5_init_1 ?_
  refine tj_aload_n ok 0 dX5_init_4 rfl rfl ?_
  refine tj_bipush (v := 8) ok dX5_init_5 (by decide) ?_
  refine tj_newI ok wm_39 dX5_init_7 e2 (CaX.of en (by omega)) ?_
  refine tj_putR (k := 1) ok fcX5 (by decide) wm_236 rfl (Or.inr ⟨nmx, rfl⟩) (Or.inr ⟨_, rfl⟩) dX5_init_9 e3 ?_
  refine tj_aload_n ok 0 dX5_init_12 rfl rfl ?_
  refine tj_lconst (v := 0) ok dX5_init_13 (by decide) ?_
  refine tj_putJ (k := 2) ok fcX5 (by decide) wm_976 rfl (Or.inl rfl) rfl dX5_init_14 e4 ?_
  refine tj_aload_n ok 0 dX5_init_17 rfl rfl ?_
  refine tj_lconst (v := 0) ok dX5_init_18 (by decide) ?_
  refine tj_putJ (k := 3) ok fcX5 (by decide) wm_977 rfl (Or.inl rfl) rfl dX5_init_19 e5 ?_
  refine tj_aload_n ok 0 dX5_init_22 rfl rfl ?_
  refine tj_lconst (v := 0) ok dX5_init_23 (by decide) ?_
  refine tj_putJ (k := 4) ok fcX5 (by decide) wm_978 rfl (Or.inl rfl) rfl dX5_init_24 e6 ?_
  refine tj_aload_n ok 0 dX5_init_27 rfl rfl ?_
  refine tj_lconst (v := 0) ok dX5_init_28 (by decide) ?_
  refine tj_putJ (k := 5) ok fcX5 (by decide) wm_979 rfl (Or.inl rfl) rfl dX5_init_29 e7 ?_
  refine tj_aload_n ok 0 dX5_init_32 rfl rfl ?_
  refine tj_iconst (v := 0) ok dX5_init_33 (by decide) ?_
  refine tj_putZ (k := 6) ok fcX5 (by decide) wm_980 rfl (Or.inl rfl) rfl dX5_init_34 e8 ?_
  refine tj_aload_n ok 0 dX5_init_37 rfl rfl ?_
  refine tj_null ok dX5_init_38 ?_
  refine tj_putR (k := 7) ok fcX5 (by decide) wm_227 rfl (Or.inl rfl) (Or.inr ⟨_, rfl⟩) dX5_init_39 e9 ?_
  refine tj_aload_n ok 0 dX5_init_42 rfl rfl ?_
  refine tj_null ok dX5_init_43 ?_
  refine tj_putR (k := 8) ok fcX5 (by decide) wm_228 rfl (Or.inl rfl) (Or.inr ⟨_, rfl⟩) dX5_init_44 e10 ?_
  refine tj_aload_n ok 0 dX5_init_47 rfl rfl ?_
  refine tj_null ok dX5_init_48 ?_
  refine tj_putR (k := 9) ok fcX5 (by decide) wm_229 rfl (Or.inl rfl) (Or.inr ⟨_, rfl⟩) dX5_init_49 e11 ?_
  refine tj_aload_n ok 0 dX5_init_52 rfl rfl ?_
  refine tj_aload_n ok 1 dX5_init_53 rfl rfl ?_
  refine tj_putR (k := 0) ok fcX5 (by decide) wm_981 rfl (Or.inr ⟨nmx, rfl⟩) (Or.inl ⟨_, rfl⟩) dX5_init_54 e12 ?_
  refine tj_aload_n ok 0 dX5_init_57 rfl rfl ?_
  refine tj_getR (k := 1) ok fcX5 (by decide) wm_236 rfl (Or.inr ⟨_, rfl⟩) dX5_init_58 e13 ?_
  refine tj_iconst (v := -1) ok dX5_init_61 (by decide) ?_
  refine tj_callS (rest := ([] : List TV).map (vl g)) (as := [.inr (.inr (x13)), .inl ((-1 : Int32))]) ok lev (by omega) (k14 g) (CaX.of en (by omega)) kn_J7_fill_53178 wm_982 wm_218 (rs_ok (Nat.le_of_ble_eq_true rfl)) rfl rfl dX5_init_62 ?_
  exact tj_return ok en dX5_init_65
def f_X5_init (a0 : Nat) (a1 : Nat) (h : AH) : Option (AH) := b_X5_init_0  a0 a1 h
theorem c_X5_init {a0 : Nat} {a1 : Nat} {h hE : AH} (hf : f_X5_init a0 a1 h = some hE) : ∀ g : GT, CM g (3) yX5_init cX5_init 2 none h [.inr (.inr (a0)), .inr (.inr (a1))] hE none :=
  CM.ofJ (by decide) (by show _ ≤ 2; exact Nat.le_of_ble_eq_true rfl) (q_X5_init_0 hf)
/-! ===== LitmusHouse$Program.withVolatile(I)LLitmusHouse$Program; ===== -/
def b_X5_withVolatile_50 (a2 : Nat) (h : AH) : Option (Nat × AH) :=
  some (a2, h)
set_option maxHeartbeats 4000000 in
set_option maxRecDepth 100000 in
theorem q_X5_withVolatile_50 {a2 : Nat} {h hE : AH} {v : Nat} (hf : b_X5_withVolatile_50 a2 h = some (v, hE)) : JD cX5_withVolatile 4 RX5 "withVolatile" (some (.object "LitmusHouse$Program")) (4) 50 [(2, .inr (.inr (a2)))] [] h hE (some (.inr (.inr (v)))) := by
  unfold b_X5_withVolatile_50 at hf
  obtain ⟨hv, hh⟩ := Prod.mk.inj (Option.some.inj hf)
  subst hv
  subst hh
  have mE : hp_n h ≤ hp_n h ∧ hp_s h ≤ hp_s h := ⟨Nat.le_refl _, Nat.le_refl _⟩
  refine ⟨by omega, fun X g K ok nmx lev hK en => ?_⟩
  refine tj_aload_n ok 0 dX5_withVolatile_50 rfl rfl ?_
  exact tj_areturn ok (Or.inl ⟨_, rfl⟩) en dX5_withVolatile_51
def b_X5_withVolatile_43 (r14 : Nat → Int32 → Nat → Int32 → AH → Option (Nat × AH)) (a0 : Nat) (a1 : Int32) (a2 : Nat) (a3 : Int32) (s0 : Nat) (s1 : Int32) (s2 : Int32) (h : AH) : Option (Nat × AH) :=
  (s_i h s0 s1 s2).bind fun h1 => r14 a0 a1 a2 (a3 + (1 : Int32)) h1
set_option maxHeartbeats 4000000 in
set_option maxRecDepth 100000 in
theorem q_X5_withVolatile_43 {hE : AH} {v : Nat} {r14 : Nat → Int32 → Nat → Int32 → AH → Option (Nat × AH)} (hr14 : ∀ (b0 : Nat) (b1 : Int32) (b2 : Nat) (b3 : Int32) (h : AH), r14 b0 b1 b2 b3 h = some (v, hE) → JD cX5_withVolatile 4 RX5 "withVolatile" (some (.object "LitmusHouse$Program")) (4) 14 [(0, .inr (.inr (b0))), (1, .inl (b1)), (2, .inr (.inr (b2))), (3, .inl (b3))] [] h hE (some (.inr (.inr (v))))) {a0 : Nat} {a1 : Int32} {a2 : Nat} {a3 : Int32} {s0 : Nat} {s1 : Int32} {s2 : Int32} {h : AH} (hf : b_X5_withVolatile_43 r14 a0 a1 a2 a3 s0 s1 s2 h = some (v, hE)) : JD cX5_withVolatile 4 RX5 "withVolatile" (some (.object "LitmusHouse$Program")) (4) 43 [(0, .inr (.inr (a0))), (1, .inl (a1)), (2, .inr (.inr (a2))), (3, .inl (a3))] [.inl (s2), .inl (s1), .inr (.inr (s0))] h hE (some (.inr (.inr (v)))) := by
  unfold b_X5_withVolatile_43 at hf
  obtain ⟨h1, e1, hf⟩ := bnd hf
  have m1 := nn_si e1
  have J := hr14 _ _ _ _ _ hf
  have mE := J.1
  refine ⟨by omega, fun X g K ok nmx lev hK en => ?_⟩
  refine tj_iastore ok dX5_withVolatile_43 e1 ?_
  refine tj_iinc (lv' := [(0, .inr (.inr (a0))), (1, .inl (a1)), (2, .inr (.inr (a2))), (3, .inl (a3 + (1 : Int32)))]) ok 3 dX5_withVolatile_44 rfl (rfl) (by decide) rfl ?_
  refine tj_goto (tgt := 14) ok dX5_withVolatile_47 (by decide) ?_
  exact J.2 X g K ok nmx lev hK en
def b_X5_withVolatile_37 (r14 : Nat → Int32 → Nat → Int32 → AH → Option (Nat × AH)) (a0 : Nat) (a1 : Int32) (a2 : Nat) (a3 : Int32) (s0 : Nat) (s1 : Int32) (h : AH) : Option (Nat × AH) :=
  (g_r h a0 5 1).bind fun x1 => (l_i h x1 a3).bind fun x2 => b_X5_withVolatile_43 r14 a0 a1 a2 a3 s0 s1 x2 h
set_option maxHeartbeats 4000000 in
set_option maxRecDepth 100000 in
theorem q_X5_withVolatile_37 {hE : AH} {v : Nat} {r14 : Nat → Int32 → Nat → Int32 → AH → Option (Nat × AH)} (hr14 : ∀ (b0 : Nat) (b1 : Int32) (b2 : Nat) (b3 : Int32) (h : AH), r14 b0 b1 b2 b3 h = some (v, hE) → JD cX5_withVolatile 4 RX5 "withVolatile" (some (.object "LitmusHouse$Program")) (4) 14 [(0, .inr (.inr (b0))), (1, .inl (b1)), (2, .inr (.inr (b2))), (3, .inl (b3))] [] h hE (some (.inr (.inr (v))))) {a0 : Nat} {a1 : Int32} {a2 : Nat} {a3 : Int32} {s0 : Nat} {s1 : Int32} {h : AH} (hf : b_X5_withVolatile_37 r14 a0 a1 a2 a3 s0 s1 h = some (v, hE)) : JD cX5_withVolatile 4 RX5 "withVolatile" (some (.object "LitmusHouse$Program")) (4) 37 [(0, .inr (.inr (a0))), (1, .inl (a1)), (2, .inr (.inr (a2))), (3, .inl (a3))] [.inl (s1), .inr (.inr (s0))] h hE (some (.inr (.inr (v)))) := by
  unfold b_X5_withVolatile_37 at hf
  obtain ⟨x1, e1, hf⟩ := bnd hf
  obtain ⟨x2, e2, hf⟩ := bnd hf
  have J := q_X5_withVolatile_43 hr14 hf
  have mE := J.1
  refine ⟨by omega, fun X g K ok nmx lev hK en => ?_⟩
  refine tj_aload_n ok 0 dX5_withVolatile_37 rfl rfl ?_
  refine tj_getR (k := 1) ok fcX5 (by decide) wm_236 rfl (Or.inr ⟨_, rfl⟩) dX5_withVolatile_38 e1 ?_
  refine tj_iload_n ok 3 dX5_withVolatile_41 rfl rfl ?_
  refine tj_iaload ok dX5_withVolatile_42 e2 ?_
  exact J.2 X g K ok nmx lev hK en
def b_X5_withVolatile_33 (r14 : Nat → Int32 → Nat → Int32 → AH → Option (Nat × AH)) (a0 : Nat) (a1 : Int32) (a2 : Nat) (a3 : Int32) (s0 : Nat) (s1 : Int32) (h : AH) : Option (Nat × AH) :=
  b_X5_withVolatile_43 r14 a0 a1 a2 a3 s0 s1 (1 : Int32) h
set_option maxHeartbeats 4000000 in
set_option maxRecDepth 100000 in
theorem q_X5_withVolatile_33 {hE : AH} {v : Nat} {r14 : Nat → Int32 → Nat → Int32 → AH → Option (Nat × AH)} (hr14 : ∀ (b0 : Nat) (b1 : Int32) (b2 : Nat) (b3 : Int32) (h : AH), r14 b0 b1 b2 b3 h = some (v, hE) → JD cX5_withVolatile 4 RX5 "withVolatile" (some (.object "LitmusHouse$Program")) (4) 14 [(0, .inr (.inr (b0))), (1, .inl (b1)), (2, .inr (.inr (b2))), (3, .inl (b3))] [] h hE (some (.inr (.inr (v))))) {a0 : Nat} {a1 : Int32} {a2 : Nat} {a3 : Int32} {s0 : Nat} {s1 : Int32} {h : AH} (hf : b_X5_withVolatile_33 r14 a0 a1 a2 a3 s0 s1 h = some (v, hE)) : JD cX5_withVolatile 4 RX5 "withVolatile" (some (.object "LitmusHouse$Program")) (4) 33 [(0, .inr (.inr (a0))), (1, .inl (a1)), (2, .inr (.inr (a2))), (3, .inl (a3))] [.inl (s1), .inr (.inr (s0))] h hE (some (.inr (.inr (v)))) := by
  unfold b_X5_withVolatile_33 at hf
  have J := q_X5_withVolatile_43 hr14 hf
  have mE := J.1
  refine ⟨by omega, fun X g K ok nmx lev hK en => ?_⟩
  refine tj_iconst (v := 1) ok dX5_withVolatile_33 (by decide) ?_
  refine tj_goto (tgt := 43) ok dX5_withVolatile_34 (by decide) ?_
  exact J.2 X g K ok nmx lev hK en
def b_X5_withVolatile_20 (r14 : Nat → Int32 → Nat → Int32 → AH → Option (Nat × AH)) (a0 : Nat) (a1 : Int32) (a2 : Nat) (a3 : Int32) (h : AH) : Option (Nat × AH) :=
  (g_r h a2 5 1).bind fun x1 => if ((a1 >>> (a3 &&& 31)) &&& (1 : Int32)) = 0 then b_X5_withVolatile_37 r14 a0 a1 a2 a3 x1 a3 h else b_X5_withVolatile_33 r14 a0 a1 a2 a3 x1 a3 h
set_option maxHeartbeats 4000000 in
set_option maxRecDepth 100000 in
theorem q_X5_withVolatile_20 {hE : AH} {v : Nat} {r14 : Nat → Int32 → Nat → Int32 → AH → Option (Nat × AH)} (hr14 : ∀ (b0 : Nat) (b1 : Int32) (b2 : Nat) (b3 : Int32) (h : AH), r14 b0 b1 b2 b3 h = some (v, hE) → JD cX5_withVolatile 4 RX5 "withVolatile" (some (.object "LitmusHouse$Program")) (4) 14 [(0, .inr (.inr (b0))), (1, .inl (b1)), (2, .inr (.inr (b2))), (3, .inl (b3))] [] h hE (some (.inr (.inr (v))))) {a0 : Nat} {a1 : Int32} {a2 : Nat} {a3 : Int32} {h : AH} (hf : b_X5_withVolatile_20 r14 a0 a1 a2 a3 h = some (v, hE)) : JD cX5_withVolatile 4 RX5 "withVolatile" (some (.object "LitmusHouse$Program")) (4) 20 [(0, .inr (.inr (a0))), (1, .inl (a1)), (2, .inr (.inr (a2))), (3, .inl (a3))] [] h hE (some (.inr (.inr (v)))) := by
  unfold b_X5_withVolatile_20 at hf
  obtain ⟨x1, e1, hf⟩ := bnd hf
  have mE : hp_n h ≤ hp_n hE ∧ hp_s h ≤ hp_s hE := by
    by_cases hc : ((a1 >>> (a3 &&& 31)) &&& (1 : Int32)) = 0
    · rw [if_pos hc] at hf; exact (q_X5_withVolatile_37 hr14 hf).1
    · rw [if_neg hc] at hf; exact (q_X5_withVolatile_33 hr14 hf).1
  refine ⟨by omega, fun X g K ok nmx lev hK en => ?_⟩
  refine tj_aload_n ok 2 dX5_withVolatile_20 rfl rfl ?_
  refine tj_getR (k := 1) ok fcX5 (by decide) wm_236 rfl (Or.inr ⟨_, rfl⟩) dX5_withVolatile_21 e1 ?_
  refine tj_iload_n ok 3 dX5_withVolatile_24 rfl rfl ?_
  refine tj_iload_n ok 1 dX5_withVolatile_25 rfl rfl ?_
  refine tj_iload_n ok 3 dX5_withVolatile_26 rfl rfl ?_
  refine tj_ishr ok dX5_withVolatile_27 ?_
  refine tj_iconst (v := 1) ok dX5_withVolatile_28 (by decide) ?_
  refine tj_iand ok dX5_withVolatile_29 ?_
  refine tj_if_eq (tgt := 37) ok dX5_withVolatile_30 (by decide) (fun hc => ?_) (fun hc => ?_)
  · rw [if_pos hc] at hf
    exact (q_X5_withVolatile_37 hr14 hf).2 X g K ok nmx lev hK en
  · rw [if_neg hc] at hf
    exact (q_X5_withVolatile_33 hr14 hf).2 X g K ok nmx lev hK en
def b_X5_withVolatile_14 (r14 : Nat → Int32 → Nat → Int32 → AH → Option (Nat × AH)) (a0 : Nat) (a1 : Int32) (a2 : Nat) (a3 : Int32) (h : AH) : Option (Nat × AH) :=
  if (6 : Int32) ≤ a3 then b_X5_withVolatile_50 a2 h else b_X5_withVolatile_20 r14 a0 a1 a2 a3 h
set_option maxHeartbeats 4000000 in
set_option maxRecDepth 100000 in
theorem q_X5_withVolatile_14 {hE : AH} {v : Nat} {r14 : Nat → Int32 → Nat → Int32 → AH → Option (Nat × AH)} (hr14 : ∀ (b0 : Nat) (b1 : Int32) (b2 : Nat) (b3 : Int32) (h : AH), r14 b0 b1 b2 b3 h = some (v, hE) → JD cX5_withVolatile 4 RX5 "withVolatile" (some (.object "LitmusHouse$Program")) (4) 14 [(0, .inr (.inr (b0))), (1, .inl (b1)), (2, .inr (.inr (b2))), (3, .inl (b3))] [] h hE (some (.inr (.inr (v))))) {a0 : Nat} {a1 : Int32} {a2 : Nat} {a3 : Int32} {h : AH} (hf : b_X5_withVolatile_14 r14 a0 a1 a2 a3 h = some (v, hE)) : JD cX5_withVolatile 4 RX5 "withVolatile" (some (.object "LitmusHouse$Program")) (4) 14 [(0, .inr (.inr (a0))), (1, .inl (a1)), (2, .inr (.inr (a2))), (3, .inl (a3))] [] h hE (some (.inr (.inr (v)))) := by
  unfold b_X5_withVolatile_14 at hf
  have mE : hp_n h ≤ hp_n hE ∧ hp_s h ≤ hp_s hE := by
    by_cases hc : (6 : Int32) ≤ a3
    · rw [if_pos hc] at hf; exact (q_X5_withVolatile_50 hf).1
    · rw [if_neg hc] at hf; exact (q_X5_withVolatile_20 hr14 hf).1
  refine ⟨by omega, fun X g K ok nmx lev hK en => ?_⟩
  refine tj_iload_n ok 3 dX5_withVolatile_14 rfl rfl ?_
  refine tj_bipush (v := 6) ok dX5_withVolatile_15 (by decide) ?_
  refine tj_icmp_ge (tgt := 50) ok dX5_withVolatile_17 (by decide) (fun hc => ?_) (fun hc => ?_)
  · rw [if_pos hc] at hf
    refine tj_sub (lv' := [(2, .inr (.inr (a2)))]) [2] rfl ?_
    exact (q_X5_withVolatile_50 hf).2 X g K ok nmx lev hK en
  · rw [if_neg hc] at hf
    exact (q_X5_withVolatile_20 hr14 hf).2 X g K ok nmx lev hK en
def l_X5_withVolatile_14 : Nat → Nat → Int32 → Nat → Int32 → AH → Option (Nat × AH)
  | 0 => fun _ _ _ _ _ => none
  | n + 1 => fun a0 a1 a2 a3 h => b_X5_withVolatile_14 (l_X5_withVolatile_14 n) a0 a1 a2 a3 h
theorem ql_X5_withVolatile_14 {n : Nat} {a0 : Nat} {a1 : Int32} {a2 : Nat} {a3 : Int32} {h hE : AH} {v : Nat} (hf : l_X5_withVolatile_14 n a0 a1 a2 a3 h = some (v, hE)) : JD cX5_withVolatile 4 RX5 "withVolatile" (some (.object "LitmusHouse$Program")) (4) 14 [(0, .inr (.inr (a0))), (1, .inl (a1)), (2, .inr (.inr (a2))), (3, .inl (a3))] [] h hE (some (.inr (.inr (v)))) := by
  induction n generalizing a0 a1 a2 a3 h with
  | zero => cases hf
  | succ n ih => exact q_X5_withVolatile_14 (fun _ _ _ _ _ hf => ih hf) hf
def b_X5_withVolatile_0 (a0 : Nat) (a1 : Int32) (h : AH) : Option (Nat × AH) :=
  (g_r (st_n h 5 10) a0 5 0).bind fun x2 => (ok_h (hp_n h)).bind fun x3 => (f_X5_init (hp_n h) x2 (st_n h 5 10)).bind fun h4 => l_X5_withVolatile_14 fu_ a0 a1 (hp_n h) (0 : Int32) h4
set_option maxHeartbeats 4000000 in
set_option maxRecDepth 100000 in
theorem q_X5_withVolatile_0 {a0 : Nat} {a1 : Int32} {h hE : AH} {v : Nat} (hf : b_X5_withVolatile_0 a0 a1 h = some (v, hE)) : JD cX5_withVolatile 4 RX5 "withVolatile" (some (.object "LitmusHouse$Program")) (4) 0 [(0, .inr (.inr (a0))), (1, .inl (a1))] [] h hE (some (.inr (.inr (v)))) := by
  unfold b_X5_withVolatile_0 at hf
  have m1 := nn_o (h := h) (c := 5) (n := 10)
  obtain ⟨x2, e2, hf⟩ := bnd hf
  obtain ⟨x3, e3, hf⟩ := bnd hf
  obtain ⟨h4, e4, hf⟩ := bnd hf
  have k4 := c_X5_init e4
  have m4 := (k4 default_g).1
  have J := ql_X5_withVolatile_14 hf
  have mE := J.1
  refine ⟨by omega, fun X g K ok nmx lev hK en => ?_⟩
  refine tj_new ok fcX5 wm_984 wm_985 wm_226 dX5_withVolatile_0 nfX5 ndX5 (CaX.of en (by omega)) ?_
  refine tj_dupa ok dX5_withVolatile_3 ?_
  refine tj_aload_n ok 0 dX5_withVolatile_4 rfl rfl ?_
  refine tj_getR (k := 0) ok fcX5 (by decide) wm_981 rfl (Or.inl ⟨_, rfl⟩) dX5_withVolatile_5 e2 ?_
  refine tj_callI (rest := ([.inr (.inr (hp_n h))] : List TV).map (vl g)) (as := [.inr (.inr (x2))]) ok lev (by omega) (of_if e3).1 (k4 g) (CaX.of en (by omega)) kn_X5_init rfl wm_986 wm_987 (rs_ok (Nat.le_of_ble_eq_true rfl)) rfl dX5_withVolatile_8 ?_
  refine tj_astore_n (lv' := [(0, .inr (.inr (a0))), (1, .inl (a1)), (2, .inr (.inr (hp_n h)))]) ok dX5_withVolatile_11 rfl (by decide) rfl ?_
  refine tj_iconst (v := 0) ok dX5_withVolatile_12 (by decide) ?_
  refine tj_istore_n (lv' := [(0, .inr (.inr (a0))), (1, .inl (a1)), (2, .inr (.inr (hp_n h))), (3, .inl ((0 : Int32)))]) ok dX5_withVolatile_13 rfl (by decide) rfl ?_
  exact J.2 X g K ok nmx lev hK en
def f_X5_withVolatile (a0 : Nat) (a1 : Int32) (h : AH) : Option (Nat × AH) := b_X5_withVolatile_0  a0 a1 h
theorem c_X5_withVolatile {a0 : Nat} {a1 : Int32} {h hE : AH} {v : Nat} (hf : f_X5_withVolatile a0 a1 h = some (v, hE)) : ∀ g : GT, CM g (4) yX5_withVolatile cX5_withVolatile 4 (some (.object "LitmusHouse$Program")) h [.inr (.inr (a0)), .inl (a1)] hE (some (.inr (.inr (v)))) :=
  CM.ofJ (by decide) (by show _ ≤ 4; exact Nat.le_of_ble_eq_true rfl) (q_X5_withVolatile_0 hf)
