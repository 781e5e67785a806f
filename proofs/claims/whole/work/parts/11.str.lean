theorem dJ0_coder_7d493_0 : decode cJ0_coder_7d493 0 = .ok (.getstatic 38, 3) := by decide +kernel
theorem dJ0_coder_7d493_3 : decode cJ0_coder_7d493 3 = .ok (.ifCond .eq 10, 3) := by decide +kernel
theorem dJ0_coder_7d493_6 : decode cJ0_coder_7d493 6 = .ok (.aload_n 0, 1) := by decide +kernel
theorem dJ0_coder_7d493_7 : decode cJ0_coder_7d493 7 = .ok (.getfield 15, 3) := by decide +kernel
theorem dJ0_coder_7d493_10 : decode cJ0_coder_7d493 10 = .ok (.goto 4, 3) := by decide +kernel
theorem dJ0_coder_7d493_13 : decode cJ0_coder_7d493 13 = .ok (.iconst 1, 1) := by decide +kernel
theorem dJ0_coder_7d493_14 : decode cJ0_coder_7d493 14 = .ok (.ireturn, 1) := by decide +kernel
theorem dJ0_isLatin1_aae02_0 : decode cJ0_isLatin1_aae02 0 = .ok (.getstatic 38, 3) := by decide +kernel
theorem dJ0_isLatin1_aae02_3 : decode cJ0_isLatin1_aae02 3 = .ok (.ifCond .eq 14, 3) := by decide +kernel
theorem dJ0_isLatin1_aae02_6 : decode cJ0_isLatin1_aae02 6 = .ok (.aload_n 0, 1) := by decide +kernel
theorem dJ0_isLatin1_aae02_7 : decode cJ0_isLatin1_aae02 7 = .ok (.getfield 15, 3) := by decide +kernel
theorem dJ0_isLatin1_aae02_10 : decode cJ0_isLatin1_aae02 10 = .ok (.ifCond .ne 7, 3) := by decide +kernel
theorem dJ0_isLatin1_aae02_13 : decode cJ0_isLatin1_aae02 13 = .ok (.iconst 1, 1) := by decide +kernel
theorem dJ0_isLatin1_aae02_14 : decode cJ0_isLatin1_aae02 14 = .ok (.goto 4, 3) := by decide +kernel
theorem dJ0_isLatin1_aae02_17 : decode cJ0_isLatin1_aae02 17 = .ok (.iconst 0, 1) := by decide +kernel
theorem dJ0_isLatin1_aae02_18 : decode cJ0_isLatin1_aae02 18 = .ok (.ireturn, 1) := by decide +kernel
theorem dJ1_charAt_3b067_0 : decode cJ1_charAt_3b067 0 = .ok (.iload_n 1, 1) := by decide +kernel
theorem dJ1_charAt_3b067_1 : decode cJ1_charAt_3b067 1 = .ok (.aload_n 0, 1) := by decide +kernel
theorem dJ1_charAt_3b067_2 : decode cJ1_charAt_3b067 2 = .ok (.arraylength, 1) := by decide +kernel
theorem dJ1_charAt_3b067_3 : decode cJ1_charAt_3b067 3 = .ok (.invokestatic 9, 3) := by decide +kernel
theorem dJ1_charAt_3b067_6 : decode cJ1_charAt_3b067 6 = .ok (.aload_n 0, 1) := by decide +kernel
theorem dJ1_charAt_3b067_7 : decode cJ1_charAt_3b067 7 = .ok (.iload_n 1, 1) := by decide +kernel
theorem dJ1_charAt_3b067_8 : decode cJ1_charAt_3b067 8 = .ok (.baload, 1) := by decide +kernel
theorem dJ1_charAt_3b067_9 : decode cJ1_charAt_3b067 9 = .ok (.sipush 255, 3) := by decide +kernel
theorem dJ1_charAt_3b067_12 : decode cJ1_charAt_3b067 12 = .ok (.iand, 1) := by decide +kernel
theorem dJ1_charAt_3b067_13 : decode cJ1_charAt_3b067 13 = .ok (.i2c, 1) := by decide +kernel
theorem dJ1_charAt_3b067_14 : decode cJ1_charAt_3b067 14 = .ok (.ireturn, 1) := by decide +kernel
theorem dJ0_length_8abf5_0 : decode cJ0_length_8abf5 0 = .ok (.aload_n 0, 1) := by decide +kernel
theorem dJ0_length_8abf5_1 : decode cJ0_length_8abf5 1 = .ok (.getfield 9, 3) := by decide +kernel
theorem dJ0_length_8abf5_4 : decode cJ0_length_8abf5 4 = .ok (.arraylength, 1) := by decide +kernel
theorem dJ0_length_8abf5_5 : decode cJ0_length_8abf5 5 = .ok (.aload_n 0, 1) := by decide +kernel
theorem dJ0_length_8abf5_6 : decode cJ0_length_8abf5 6 = .ok (.invokevirtual 335, 3) := by decide +kernel
theorem dJ0_length_8abf5_9 : decode cJ0_length_8abf5 9 = .ok (.ishr, 1) := by decide +kernel
theorem dJ0_length_8abf5_10 : decode cJ0_length_8abf5 10 = .ok (.ireturn, 1) := by decide +kernel
theorem dJ0_charAt_5068e_0 : decode cJ0_charAt_5068e 0 = .ok (.aload_n 0, 1) := by decide +kernel
theorem dJ0_charAt_5068e_1 : decode cJ0_charAt_5068e 1 = .ok (.invokevirtual 492, 3) := by decide +kernel
theorem dJ0_charAt_5068e_4 : decode cJ0_charAt_5068e 4 = .ok (.ifCond .eq 12, 3) := by decide +kernel
theorem dJ0_charAt_5068e_7 : decode cJ0_charAt_5068e 7 = .ok (.aload_n 0, 1) := by decide +kernel
theorem dJ0_charAt_5068e_8 : decode cJ0_charAt_5068e 8 = .ok (.getfield 9, 3) := by decide +kernel
theorem dJ0_charAt_5068e_11 : decode cJ0_charAt_5068e 11 = .ok (.iload_n 1, 1) := by decide +kernel
theorem dJ0_charAt_5068e_12 : decode cJ0_charAt_5068e 12 = .ok (.invokestatic 495, 3) := by decide +kernel
theorem dJ0_charAt_5068e_15 : decode cJ0_charAt_5068e 15 = .ok (.ireturn, 1) := by decide +kernel
theorem dJ0_charAt_5068e_16 : decode cJ0_charAt_5068e 16 = .ok (.aload_n 0, 1) := by decide +kernel
theorem dJ0_charAt_5068e_17 : decode cJ0_charAt_5068e 17 = .ok (.getfield 9, 3) := by decide +kernel
theorem dJ0_charAt_5068e_20 : decode cJ0_charAt_5068e 20 = .ok (.iload_n 1, 1) := by decide +kernel
theorem dJ0_charAt_5068e_21 : decode cJ0_charAt_5068e 21 = .ok (.invokestatic 498, 3) := by decide +kernel
theorem dJ0_charAt_5068e_24 : decode cJ0_charAt_5068e 24 = .ok (.ireturn, 1) := by decide +kernel
theorem dJ0_checkIndex_df160_0 : decode cJ0_checkIndex_df160 0 = .ok (.iload_n 0, 1) := by decide +kernel
theorem dJ0_checkIndex_df160_1 : decode cJ0_checkIndex_df160 1 = .ok (.iload_n 1, 1) := by decide +kernel
theorem dJ0_checkIndex_df160_2 : decode cJ0_checkIndex_df160 2 = .ok (.getstatic 1053, 3) := by decide +kernel
theorem dJ0_checkIndex_df160_5 : decode cJ0_checkIndex_df160 5 = .ok (.invokestatic 1059, 3) := by decide +kernel
theorem dJ0_checkIndex_df160_8 : decode cJ0_checkIndex_df160 8 = .ok (.pop, 1) := by decide +kernel
theorem dJ0_checkIndex_df160_9 : decode cJ0_checkIndex_df160 9 = .ok (.return_, 1) := by decide +kernel
theorem dJ3_checkIndex_8e157_0 : decode cJ3_checkIndex_8e157 0 = .ok (.iload_n 0, 1) := by decide +kernel
theorem dJ3_checkIndex_8e157_1 : decode cJ3_checkIndex_8e157 1 = .ok (.ifCond .lt 8, 3) := by decide +kernel
theorem dJ3_checkIndex_8e157_4 : decode cJ3_checkIndex_8e157 4 = .ok (.iload_n 0, 1) := by decide +kernel
theorem dJ3_checkIndex_8e157_5 : decode cJ3_checkIndex_8e157 5 = .ok (.iload_n 1, 1) := by decide +kernel
theorem dJ3_checkIndex_8e157_6 : decode cJ3_checkIndex_8e157 6 = .ok (.if_icmp .lt 10, 3) := by decide +kernel
theorem dJ3_checkIndex_8e157_9 : decode cJ3_checkIndex_8e157 9 = .ok (.aload_n 2, 1) := by decide +kernel
theorem dJ3_checkIndex_8e157_10 : decode cJ3_checkIndex_8e157 10 = .ok (.iload_n 0, 1) := by decide +kernel
theorem dJ3_checkIndex_8e157_11 : decode cJ3_checkIndex_8e157 11 = .ok (.iload_n 1, 1) := by decide +kernel
theorem dJ3_checkIndex_8e157_12 : decode cJ3_checkIndex_8e157 12 = .ok (.invokestatic 95, 3) := by decide +kernel
theorem dJ3_checkIndex_8e157_15 : decode cJ3_checkIndex_8e157 15 = .ok (.athrow, 1) := by decide +kernel
theorem dJ3_checkIndex_8e157_16 : decode cJ3_checkIndex_8e157 16 = .ok (.iload_n 0, 1) := by decide +kernel
theorem dJ3_checkIndex_8e157_17 : decode cJ3_checkIndex_8e157 17 = .ok (.ireturn, 1) := by decide +kernel
theorem kn_J0_coder_7d493 : Kn yJ0_coder_7d493 cJ0_coder_7d493 1 (some .byte) 0 := ⟨wm_1, wm_2, by decide +kernel, by decide⟩
theorem kn_J0_isLatin1_aae02 : Kn yJ0_isLatin1_aae02 cJ0_isLatin1_aae02 1 (some .boolean) 0 := ⟨wm_3, wm_2, by decide +kernel, by decide⟩
theorem kn_J1_charAt_3b067 : Kn yJ1_charAt_3b067 cJ1_charAt_3b067 2 (some .char) 2 := ⟨wm_4, wm_5, by decide +kernel, by decide⟩
theorem kn_J0_length_8abf5 : Kn yJ0_length_8abf5 cJ0_length_8abf5 1 (some .int) 0 := ⟨wm_6, wm_2, by decide +kernel, by decide⟩
theorem kn_J0_charAt_5068e : Kn yJ0_charAt_5068e cJ0_charAt_5068e 2 (some .char) 1 := ⟨wm_7, wm_2, by decide +kernel, by decide⟩
theorem kn_J0_checkIndex_df160 : Kn yJ0_checkIndex_df160 cJ0_checkIndex_df160 2 none 2 := ⟨wm_8, wm_2, by decide +kernel, by decide⟩
theorem kn_J3_checkIndex_8e157 : Kn yJ3_checkIndex_8e157 cJ3_checkIndex_8e157 3 (some .int) 3 := ⟨wm_9, wm_10, by decide +kernel, by decide⟩
set_option maxHeartbeats 4000000 in
set_option maxRecDepth 100000 in
theorem c_J0_coder {r : Nat} {h : AH} (hr : 1 ≤ r ∧ r ≤ 17) : ∀ g : GT, CM g 1 yJ0_coder_7d493 cJ0_coder_7d493 1 (some .byte) h [.inr (.inr r)] h (some (.inl 0)) :=
  CM.ofJ (by decide) (by show _ ≤ 1; exact Nat.le_of_ble_eq_true rfl) ⟨⟨Nat.le_refl _, Nat.le_refl _⟩, fun X g K ok nmx lev hK en => by
    refine tj_comp ok wm_11 dJ0_coder_7d493_0 ?_
    refine tj_if_eq (tgt := 13) ok dJ0_coder_7d493_3 (by decide) (fun hc => absurd hc (by decide)) (fun _ => ?_)
    refine tj_aload_n ok 0 dJ0_coder_7d493_6 rfl rfl ?_
    refine tj_coder ok hr wm_12 dJ0_coder_7d493_7 ?_
    refine tj_goto (tgt := 14) ok dJ0_coder_7d493_10 (by decide) ?_
    exact tj_nreturn ok (by decide) en dJ0_coder_7d493_14⟩
set_option maxHeartbeats 4000000 in
set_option maxRecDepth 100000 in
theorem c_J0_isLatin1 {r : Nat} {h : AH} (hr : 1 ≤ r ∧ r ≤ 17) : ∀ g : GT, CM g 1 yJ0_isLatin1_aae02 cJ0_isLatin1_aae02 1 (some .boolean) h [.inr (.inr r)] h (some (.inl 1)) :=
  CM.ofJ (by decide) (by show _ ≤ 1; exact Nat.le_of_ble_eq_true rfl) ⟨⟨Nat.le_refl _, Nat.le_refl _⟩, fun X g K ok nmx lev hK en => by
    refine tj_comp ok wm_11 dJ0_isLatin1_aae02_0 ?_
    refine tj_if_eq (tgt := 17) ok dJ0_isLatin1_aae02_3 (by decide) (fun hc => absurd hc (by decide)) (fun _ => ?_)
    refine tj_aload_n ok 0 dJ0_isLatin1_aae02_6 rfl rfl ?_
    refine tj_coder ok hr wm_12 dJ0_isLatin1_aae02_7 ?_
    refine tj_if_ne (tgt := 17) ok dJ0_isLatin1_aae02_10 (by decide) (fun hc => absurd rfl hc) (fun _ => ?_)
    refine tj_iconst (v := 1) ok dJ0_isLatin1_aae02_13 (by decide) ?_
    refine tj_goto (tgt := 18) ok dJ0_isLatin1_aae02_14 (by decide) ?_
    exact tj_nreturn ok (by decide) en dJ0_isLatin1_aae02_18⟩
def f_J0_length (r : Nat) (h : AH) : Option (Int32 × AH) := if 1 ≤ r ∧ r ≤ 17 then some (Int32.ofNat (js_l.getD (r - 1) 0), h) else none
def f_J0_charAt (r : Nat) (i : Int32) (h : AH) : Option (Int32 × AH) := if (1 ≤ r ∧ r ≤ 17) ∧ ¬ i < 0 ∧ i.toNatClampNeg < js_l.getD (r - 1) 0 then some ((js_b.getD (r - 1) []).getD i.toNatClampNeg 0, h) else none
theorem sh_0 : ∀ i, i < 17 → Int32.ofNat (js_l.getD i 0) >>> ((0 : Int32) &&& 31) = Int32.ofNat (js_l.getD i 0) := by decide +kernel
theorem ch_0 : ∀ i, i < 17 → ∀ j, j < js_l.getD i 0 → (((js_b.getD i []).getD j 0 &&& 255).toUInt32 % 65536).toInt32 = (js_b.getD i []).getD j 0 := by decide +kernel
theorem ch_1 : ∀ i, i < 17 → ∀ j, j < js_l.getD i 0 → narrow .char (.int ((js_b.getD i []).getD j 0)) = .int ((js_b.getD i []).getD j 0) := by
  have h : ∀ i, i < 17 → ∀ j, j < js_l.getD i 0 → ((js_b.getD i []).getD j 0).toUInt32.toUInt16.toUInt32.toInt32 = (js_b.getD i []).getD j 0 := by decide +kernel
  intro i hi j hj
  show Value.int _ = _
  have := h i hi j hj
  first | exact congrArg Value.int this | (unfold narrow; simp_all)
theorem ln_0 : ∀ i, i < 17 → js_l.getD i 0 < 2 ^ 31 := by decide +kernel
set_option maxHeartbeats 4000000 in
set_option maxRecDepth 100000 in
theorem c_J0_length {r : Nat} {h hE : AH} {v : Int32} (hf : f_J0_length r h = some (v, hE)) : ∀ g : GT, CM g 3 yJ0_length_8abf5 cJ0_length_8abf5 1 (some .int) h [.inr (.inr r)] hE (some (.inl v)) := by
  obtain ⟨hr, q⟩ := of_if hf
  obtain ⟨hv, hh⟩ := Prod.mk.inj q
  subst hv
  subst hh
  refine CM.ofJ (by decide) (by show _ ≤ 1; exact Nat.le_of_ble_eq_true rfl) ⟨⟨Nat.le_refl _, Nat.le_refl _⟩, fun X g K ok nmx lev hK en => ?_⟩
  have mE : hp_n h ≤ hp_n h ∧ hp_s h ≤ hp_s h := ⟨Nat.le_refl _, Nat.le_refl _⟩
  refine tj_aload_n ok 0 dJ0_length_8abf5_0 rfl rfl ?_
  refine tj_value ok hr wm_13 dJ0_length_8abf5_1 ?_
  refine tj_blen ok hr dJ0_length_8abf5_4 ?_
  refine tj_aload_n ok 0 dJ0_length_8abf5_5 rfl rfl ?_
  refine tj_callT (rest := ([.inl (Int32.ofNat (js_l.getD (r - 1) 0))] : List TV).map (vl g)) (as := []) ok lev (k := 1) (by omega) (c_J0_coder hr g) (CaX.of en (by omega)) hr kn_J0_coder_7d493 rfl wm_14 wm_15 wm_16 (rs_ok (Nat.le_of_ble_eq_true rfl)) rfl rfl dJ0_length_8abf5_6 ?_
  refine tj_ishr ok dJ0_length_8abf5_9 ?_
  rw [sh_0 (r - 1) (by omega)]
  exact tj_ireturn ok en dJ0_length_8abf5_10
set_option maxHeartbeats 4000000 in
set_option maxRecDepth 100000 in
theorem c_J3_checkIndex {i n : Int32} {r : Nat} {h : AH} (h1 : ¬ i < 0) (h2 : i < n) : ∀ g : GT, CM g 1 yJ3_checkIndex_8e157 cJ3_checkIndex_8e157 3 (some .int) h [.inl i, .inl n, .inr (.inr r)] h (some (.inl i)) := by
  refine CM.ofJ (by decide) (by show _ ≤ 3; exact Nat.le_of_ble_eq_true rfl) ⟨⟨Nat.le_refl _, Nat.le_refl _⟩, fun X g K ok nmx lev hK en => ?_⟩
  refine tj_iload_n ok 0 dJ3_checkIndex_8e157_0 rfl rfl ?_
  refine tj_if_lt (tgt := 9) ok dJ3_checkIndex_8e157_1 (by decide) (fun hc => absurd hc h1) (fun _ => ?_)
  refine tj_iload_n ok 0 dJ3_checkIndex_8e157_4 rfl rfl ?_
  refine tj_iload_n ok 1 dJ3_checkIndex_8e157_5 rfl rfl ?_
  refine tj_icmp_lt (tgt := 16) ok dJ3_checkIndex_8e157_6 (by decide) (fun _ => ?_) (fun hc => absurd h2 hc)
  refine tj_iload_n ok 0 dJ3_checkIndex_8e157_16 rfl rfl ?_
  exact tj_ireturn ok en dJ3_checkIndex_8e157_17
set_option maxHeartbeats 4000000 in
set_option maxRecDepth 100000 in
theorem c_J0_checkIndex {i n : Int32} {h : AH} (h1 : ¬ i < 0) (h2 : i < n) : ∀ g : GT, CM g 2 yJ0_checkIndex_df160 cJ0_checkIndex_df160 2 none h [.inl i, .inl n] h none := by
  refine CM.ofJ (by decide) (by show _ ≤ 2; exact Nat.le_of_ble_eq_true rfl) ⟨⟨Nat.le_refl _, Nat.le_refl _⟩, fun X g K ok nmx lev hK en => ?_⟩
  have mE : hp_n h ≤ hp_n h ∧ hp_s h ≤ hp_s h := ⟨Nat.le_refl _, Nat.le_refl _⟩
  refine tj_iload_n ok 0 dJ0_checkIndex_df160_0 rfl rfl ?_
  refine tj_iload_n ok 1 dJ0_checkIndex_df160_1 rfl rfl ?_
  refine tj_sio ok wm_17 dJ0_checkIndex_df160_2 (fun r => ?_)
  refine tj_callS (rest := ([] : List TV).map (vl g)) (as := [.inl i, .inl n, .inr (.inr r)]) ok lev (k := 1) (by omega) (c_J3_checkIndex h1 h2 g) (CaX.of en (by omega)) kn_J3_checkIndex_8e157 wm_18 wm_19 (rs_ok (Nat.le_of_ble_eq_true rfl)) rfl rfl dJ0_checkIndex_df160_5 ?_
  refine tj_popi ok dJ0_checkIndex_df160_8 ?_
  exact tj_return ok en dJ0_checkIndex_df160_9
set_option maxHeartbeats 4000000 in
set_option maxRecDepth 100000 in
theorem c_J1_charAt {r : Nat} {i : Int32} {h : AH} (hr : 1 ≤ r ∧ r ≤ 17) (hi : ¬ i < 0 ∧ i.toNatClampNeg < js_l.getD (r - 1) 0) : ∀ g : GT, CM g 3 yJ1_charAt_3b067 cJ1_charAt_3b067 2 (some .char) h [.inr (.inr (r + 32)), .inl i] h (some (.inl ((js_b.getD (r - 1) []).getD i.toNatClampNeg 0))) := by
  refine CM.ofJ (by decide) (by show _ ≤ 2; exact Nat.le_of_ble_eq_true rfl) ⟨⟨Nat.le_refl _, Nat.le_refl _⟩, fun X g K ok nmx lev hK en => ?_⟩
  have mE : hp_n h ≤ hp_n h ∧ hp_s h ≤ hp_s h := ⟨Nat.le_refl _, Nat.le_refl _⟩
  have hlt : i < Int32.ofNat (js_l.getD (r - 1) 0) := by
    have h1 := ln_0 (r - 1) (by omega)
    obtain ⟨h2, h3⟩ := hi
    have e : i = nI i.toNatClampNeg := by
      have h4 : (0 : Int) ≤ i.toInt := by
        have := Int32.not_lt.mp h2
        simpa using Int32.le_iff_toInt_le.mp this
      apply Int32.toInt_inj.mp
      show i.toInt = (Int32.ofNat i.toNatClampNeg).toInt
      rw [Int32.toInt_ofNat_of_lt (by show i.toInt.toNat < _; have := i.toInt_lt; omega)]
      show i.toInt = ((i.toInt.toNat : Nat) : Int)
      omega
    rw [e]
    exact nI_lt h3 h1
  refine tj_iload_n ok 1 dJ1_charAt_3b067_0 rfl rfl ?_
  refine tj_aload_n ok 0 dJ1_charAt_3b067_1 rfl rfl ?_
  refine tj_blen ok hr dJ1_charAt_3b067_2 ?_
  refine tj_callS (rest := ([] : List TV).map (vl g)) (as := [.inl i, .inl (Int32.ofNat (js_l.getD (r - 1) 0))]) ok lev (k := 2) (by omega) (c_J0_checkIndex hi.1 hlt g) (CaX.of en (by omega)) kn_J0_checkIndex_df160 wm_20 wm_21 (rs_ok (Nat.le_of_ble_eq_true rfl)) rfl rfl dJ1_charAt_3b067_3 ?_
  refine tj_aload_n ok 0 dJ1_charAt_3b067_6 rfl rfl ?_
  refine tj_iload_n ok 1 dJ1_charAt_3b067_7 rfl rfl ?_
  refine tj_baload ok hr hi dJ1_charAt_3b067_8 ?_
  refine tj_sipush (v := 255) ok dJ1_charAt_3b067_9 (by decide) ?_
  refine tj_iand ok dJ1_charAt_3b067_12 ?_
  refine tj_i2c ok dJ1_charAt_3b067_13 ?_
  rw [ch_0 (r - 1) (by omega) _ hi.2]
  exact tj_nreturn ok (ch_1 (r - 1) (by omega) _ hi.2) en dJ1_charAt_3b067_14
set_option maxHeartbeats 4000000 in
set_option maxRecDepth 100000 in
theorem c_J0_charAt {r : Nat} {i : Int32} {h hE : AH} {v : Int32} (hf : f_J0_charAt r i h = some (v, hE)) : ∀ g : GT, CM g 5 yJ0_charAt_5068e cJ0_charAt_5068e 2 (some .char) h [.inr (.inr r), .inl i] hE (some (.inl v)) := by
  obtain ⟨⟨hr, hi⟩, q⟩ := of_if hf
  obtain ⟨hv, hh⟩ := Prod.mk.inj q
  subst hv
  subst hh
  refine CM.ofJ (by decide) (by show _ ≤ 2; exact Nat.le_of_ble_eq_true rfl) ⟨⟨Nat.le_refl _, Nat.le_refl _⟩, fun X g K ok nmx lev hK en => ?_⟩
  have mE : hp_n h ≤ hp_n h ∧ hp_s h ≤ hp_s h := ⟨Nat.le_refl _, Nat.le_refl _⟩
  refine tj_aload_n ok 0 dJ0_charAt_5068e_0 rfl rfl ?_
  refine tj_callT (rest := ([] : List TV).map (vl g)) (as := []) ok lev (k := 1) (by omega) (c_J0_isLatin1 hr g) (CaX.of en (by omega)) hr kn_J0_isLatin1_aae02 rfl wm_22 wm_23 wm_24 (rs_ok (Nat.le_of_ble_eq_true rfl)) rfl rfl dJ0_charAt_5068e_1 ?_
  refine tj_if_eq (tgt := 16) ok dJ0_charAt_5068e_4 (by decide) (fun hc => absurd hc (by decide)) (fun _ => ?_)
  refine tj_aload_n ok 0 dJ0_charAt_5068e_7 rfl rfl ?_
  refine tj_value ok hr wm_13 dJ0_charAt_5068e_8 ?_
  refine tj_iload_n ok 1 dJ0_charAt_5068e_11 rfl rfl ?_
  refine tj_callS (rest := ([] : List TV).map (vl g)) (as := [.inr (.inr (r + 32)), .inl i]) ok lev (k := 3) (by omega) (c_J1_charAt hr hi g) (CaX.of en (by omega)) kn_J1_charAt_3b067 wm_25 wm_26 (rs_ok (Nat.le_of_ble_eq_true rfl)) rfl rfl dJ0_charAt_5068e_12 ?_
  exact tj_nreturn ok (ch_1 (r - 1) (by omega) _ hi.2) en dJ0_charAt_5068e_15
theorem kn_J0_length : Kn yJ0_length_8abf5 cJ0_length_8abf5 1 (some .int) 0 := kn_J0_length_8abf5
theorem kn_J0_charAt : Kn yJ0_charAt_5068e cJ0_charAt_5068e 2 (some .char) 1 := kn_J0_charAt_5068e
