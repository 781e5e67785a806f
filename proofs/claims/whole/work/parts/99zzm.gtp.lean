/-! ===== the calls that first ask for the program ===== -/
section
variable {h h1 H : AH} {g g' : SG} {m p : Nat} {a b1 b2 b3 : Int32} {d : PD}
theorem tp_action (G : GC h g m) (R : GR h g) (fin : ∀ p d, p < 8 → a = nI p → sD g p = some d → CPl h (hp_r h 66 p) d → hp_r h 66 p ≠ 0 → ∃ v h1 g', f_X10_action 64 (nI p) b1 b2 h = some (v, h1) ∧ GC h1 g' (m + 1) ∧ CLF h h1 ∧ ∀ H2, GR H2 g → hp_i H2 102 24 = nI p → hp_i H2 102 0 = 0 → ∃ H3, b_X11_action__10 102 b1 b2 H2 = some (v, H3) ∧ GR H3 g' ∧ RLF H2 H3 ∧ hp_i H3 102 0 = 0) :
    TSP Int32.toInt64 (f_L_action 64 a b1 b2 125) (f_X11_action_ 102 a b1 b2) h m := by
  have GHh := G.2.1
  refine tsp_pl (a := a) G R (fun ha => ?_) (fun p hp ha h0 => ?_) (fun H H' Z e => ?_) (fun p d hp ha hd C => ?_)
  · have e0 : b_L_action_0 64 a b1 b2 125 h = none := by
      unfold b_L_action_0 f_X10_action b_X10_action_0
      rw [ov64 GHh, Option.bind_some, Option.bind_some, (c_pn GHh ha).1]; rfl
    unfold f_L_action x_X10_action
    rw [e0, ov64 GHh, Option.bind_some, Option.bind_some, (c_pn GHh ha).2]; rfl
  · subst ha
    have e0 : b_L_action_0 64 (nI p) b1 b2 125 h = none := by
      unfold b_L_action_0 f_X10_action b_X10_action_0
      rw [ov64 GHh, Option.bind_some, Option.bind_some, (c_p0 GHh hp h0).1]; rfl
    unfold f_L_action x_X10_action
    rw [e0, ov64 GHh, Option.bind_some, Option.bind_some, (c_p0 GHh hp h0).2]; rfl
  · unfold f_X11_action_ b_X11_action__0
    rw [rz_v Z, Option.bind_some, e, Option.bind_some, if_neg n10]; rfl
  · subst ha
    have h0 : hp_r h 66 p ≠ 0 := by have := C.1.1.1; omega
    obtain ⟨v, h1, g', eC, G1, F1, eR⟩ := fin p d hp rfl hd C h0
    refine tsp_ok (g' := g') (v := v) (h1 := h1) ?_ G1 F1 R (fun H RH _ => ?_)
    · unfold f_L_action b_L_action_0 b_L_action_23
      rw [ov64 GHh, Option.bind_some, eC, Option.bind_some, sj125 G1.2.1, Option.bind_some]; rfl
    · obtain ⟨H2, x1, x2, x3, x4, x5⟩ := r_fl0 RH hp hd
      obtain ⟨H3, y1, y2, y3, y4⟩ := eR H2 x2 x5 x4
      refine ⟨H3, ?_, y2, rlf_tr x3 y3, y4⟩
      unfold f_X11_action_ b_X11_action__0
      rw [rz_v RH.1, Option.bind_some, x1, Option.bind_some, if_pos rfl]
      exact y1
theorem tp_outcomes (G : GC h g m) (R : GR h g) (fin : ∀ p d, p < 8 → a = nI p → sD g p = some d → CPl h (hp_r h 66 p) d → hp_r h 66 p ≠ 0 → ∃ v h1 g', f_X10_outcomes 64 (nI p) b1 h = some (v, h1) ∧ GC h1 g' (m + 1) ∧ CLF h h1 ∧ ∀ H2, GR H2 g → hp_i H2 102 24 = nI p → hp_i H2 102 0 = 0 → ∃ H3, b_X11_outcomes_10 102 b1 H2 = some (v, H3) ∧ GR H3 g' ∧ RLF H2 H3 ∧ hp_i H3 102 0 = 0) :
    TSP Int32.toInt64 (f_L_outcomes 64 a b1 125) (f_X11_outcomes 102 a b1) h m := by
  have GHh := G.2.1
  refine tsp_pl (a := a) G R (fun ha => ?_) (fun p hp ha h0 => ?_) (fun H H' Z e => ?_) (fun p d hp ha hd C => ?_)
  · have e0 : b_L_outcomes_0 64 a b1 125 h = none := by
      unfold b_L_outcomes_0 f_X10_outcomes b_X10_outcomes_0
      rw [ov64 GHh, Option.bind_some, Option.bind_some, (c_pn GHh ha).1]; rfl
    unfold f_L_outcomes x_X10_outcomes
    rw [e0, ov64 GHh, Option.bind_some, Option.bind_some, (c_pn GHh ha).2]; rfl
  · subst ha
    have e0 : b_L_outcomes_0 64 (nI p) b1 125 h = none := by
      unfold b_L_outcomes_0 f_X10_outcomes b_X10_outcomes_0
      rw [ov64 GHh, Option.bind_some, Option.bind_some, (c_p0 GHh hp h0).1]; rfl
    unfold f_L_outcomes x_X10_outcomes
    rw [e0, ov64 GHh, Option.bind_some, Option.bind_some, (c_p0 GHh hp h0).2]; rfl
  · unfold f_X11_outcomes b_X11_outcomes_0
    rw [rz_v Z, Option.bind_some, e, Option.bind_some, if_neg n10]; rfl
  · subst ha
    have h0 : hp_r h 66 p ≠ 0 := by have := C.1.1.1; omega
    obtain ⟨v, h1, g', eC, G1, F1, eR⟩ := fin p d hp rfl hd C h0
    refine tsp_ok (g' := g') (v := v) (h1 := h1) ?_ G1 F1 R (fun H RH _ => ?_)
    · unfold f_L_outcomes b_L_outcomes_0 b_L_outcomes_21
      rw [ov64 GHh, Option.bind_some, eC, Option.bind_some, sj125 G1.2.1, Option.bind_some]; rfl
    · obtain ⟨H2, x1, x2, x3, x4, x5⟩ := r_fl0 RH hp hd
      obtain ⟨H3, y1, y2, y3, y4⟩ := eR H2 x2 x5 x4
      refine ⟨H3, ?_, y2, rlf_tr x3 y3, y4⟩
      unfold f_X11_outcomes b_X11_outcomes_0
      rw [rz_v RH.1, Option.bind_some, x1, Option.bind_some, if_pos rfl]
      exact y1
theorem tp_value (G : GC h g m) (R : GR h g) (fin : ∀ p d, p < 8 → a = nI p → sD g p = some d → CPl h (hp_r h 66 p) d → hp_r h 66 p ≠ 0 → ∃ v h1 g', f_X10_value 64 (nI p) b1 b2 b3 h = some (v, h1) ∧ GC h1 g' (m + 1) ∧ CLF h h1 ∧ ∀ H2, GR H2 g → hp_i H2 102 24 = nI p → hp_i H2 102 0 = 0 → ∃ H3, b_X11_value_10 102 b1 b2 b3 H2 = some (v, H3) ∧ GR H3 g' ∧ RLF H2 H3 ∧ hp_i H3 102 0 = 0) :
    TSP Int32.toInt64 (f_L_value 64 a b1 b2 b3 125) (f_X11_value 102 a b1 b2 b3) h m := by
  have GHh := G.2.1
  refine tsp_pl (a := a) G R (fun ha => ?_) (fun p hp ha h0 => ?_) (fun H H' Z e => ?_) (fun p d hp ha hd C => ?_)
  · have e0 : b_L_value_0 64 a b1 b2 b3 125 h = none := by
      unfold b_L_value_0 f_X10_value b_X10_value_0
      rw [ov64 GHh, Option.bind_some, Option.bind_some, (c_pn GHh ha).1]; rfl
    unfold f_L_value x_X10_value
    rw [e0, ov64 GHh, Option.bind_some, Option.bind_some, (c_pn GHh ha).2]; rfl
  · subst ha
    have e0 : b_L_value_0 64 (nI p) b1 b2 b3 125 h = none := by
      unfold b_L_value_0 f_X10_value b_X10_value_0
      rw [ov64 GHh, Option.bind_some, Option.bind_some, (c_p0 GHh hp h0).1]; rfl
    unfold f_L_value x_X10_value
    rw [e0, ov64 GHh, Option.bind_some, Option.bind_some, (c_p0 GHh hp h0).2]; rfl
  · unfold f_X11_value b_X11_value_0
    rw [rz_v Z, Option.bind_some, e, Option.bind_some, if_neg n10]; rfl
  · subst ha
    have h0 : hp_r h 66 p ≠ 0 := by have := C.1.1.1; omega
    obtain ⟨v, h1, g', eC, G1, F1, eR⟩ := fin p d hp rfl hd C h0
    refine tsp_ok (g' := g') (v := v) (h1 := h1) ?_ G1 F1 R (fun H RH _ => ?_)
    · unfold f_L_value b_L_value_0 b_L_value_25
      rw [ov64 GHh, Option.bind_some, eC, Option.bind_some, sj125 G1.2.1, Option.bind_some]; rfl
    · obtain ⟨H2, x1, x2, x3, x4, x5⟩ := r_fl0 RH hp hd
      obtain ⟨H3, y1, y2, y3, y4⟩ := eR H2 x2 x5 x4
      refine ⟨H3, ?_, y2, rlf_tr x3 y3, y4⟩
      unfold f_X11_value b_X11_value_0
      rw [rz_v RH.1, Option.bind_some, x1, Option.bind_some, if_pos rfl]
      exact y1
theorem tp_stuck (G : GC h g m) (R : GR h g) (fin : ∀ p d, p < 8 → a = nI p → sD g p = some d → CPl h (hp_r h 66 p) d → hp_r h 66 p ≠ 0 → ∃ v h1 g', f_X10_stuck 64 (nI p) b1 b2 h = some (v, h1) ∧ GC h1 g' (m + 1) ∧ CLF h h1 ∧ ∀ H2, GR H2 g → hp_i H2 102 24 = nI p → hp_i H2 102 0 = 0 → ∃ H3, b_X11_stuck_10 102 b1 b2 H2 = some (v, H3) ∧ GR H3 g' ∧ RLF H2 H3 ∧ hp_i H3 102 0 = 0) :
    TSP Int32.toInt64 (f_L_stuck 64 a b1 b2 125) (f_X11_stuck 102 a b1 b2) h m := by
  have GHh := G.2.1
  refine tsp_pl (a := a) G R (fun ha => ?_) (fun p hp ha h0 => ?_) (fun H H' Z e => ?_) (fun p d hp ha hd C => ?_)
  · have e0 : b_L_stuck_0 64 a b1 b2 125 h = none := by
      unfold b_L_stuck_0 f_X10_stuck b_X10_stuck_0
      rw [ov64 GHh, Option.bind_some, Option.bind_some, (c_pn GHh ha).1]; rfl
    unfold f_L_stuck x_X10_stuck
    rw [e0, ov64 GHh, Option.bind_some, Option.bind_some, (c_pn GHh ha).2]; rfl
  · subst ha
    have e0 : b_L_stuck_0 64 (nI p) b1 b2 125 h = none := by
      unfold b_L_stuck_0 f_X10_stuck b_X10_stuck_0
      rw [ov64 GHh, Option.bind_some, Option.bind_some, (c_p0 GHh hp h0).1]; rfl
    unfold f_L_stuck x_X10_stuck
    rw [e0, ov64 GHh, Option.bind_some, Option.bind_some, (c_p0 GHh hp h0).2]; rfl
  · unfold f_X11_stuck b_X11_stuck_0
    rw [rz_v Z, Option.bind_some, e, Option.bind_some, if_neg n10]; rfl
  · subst ha
    have h0 : hp_r h 66 p ≠ 0 := by have := C.1.1.1; omega
    obtain ⟨v, h1, g', eC, G1, F1, eR⟩ := fin p d hp rfl hd C h0
    refine tsp_ok (g' := g') (v := v) (h1 := h1) ?_ G1 F1 R (fun H RH _ => ?_)
    · unfold f_L_stuck b_L_stuck_0 b_L_stuck_23
      rw [ov64 GHh, Option.bind_some, eC, Option.bind_some, sj125 G1.2.1, Option.bind_some]; rfl
    · obtain ⟨H2, x1, x2, x3, x4, x5⟩ := r_fl0 RH hp hd
      obtain ⟨H3, y1, y2, y3, y4⟩ := eR H2 x2 x5 x4
      refine ⟨H3, ?_, y2, rlf_tr x3 y3, y4⟩
      unfold f_X11_stuck b_X11_stuck_0
      rw [rz_v RH.1, Option.bind_some, x1, Option.bind_some, if_pos rfl]
      exact y1
theorem tp_allowed (G : GC h g m) (R : GR h g) (fin : ∀ p d, p < 8 → a = nI p → sD g p = some d → CPl h (hp_r h 66 p) d → hp_r h 66 p ≠ 0 → ∃ v h1 g', f_X10_allowed 64 (nI p) b1 h = some (v, h1) ∧ GC h1 g' (m + 1) ∧ CLF h h1 ∧ ∀ H2, GR H2 g → hp_i H2 102 24 = nI p → hp_i H2 102 0 = 0 → ∃ H3, b_X11_allowed_10 102 b1 H2 = some (v, H3) ∧ GR H3 g' ∧ RLF H2 H3 ∧ hp_i H3 102 0 = 0) :
    TSP Int32.toInt64 (f_L_allowed 64 a b1 125) (f_X11_allowed 102 a b1) h m := by
  have GHh := G.2.1
  refine tsp_pl (a := a) G R (fun ha => ?_) (fun p hp ha h0 => ?_) (fun H H' Z e => ?_) (fun p d hp ha hd C => ?_)
  · have e0 : b_L_allowed_0 64 a b1 125 h = none := by
      unfold b_L_allowed_0 f_X10_allowed b_X10_allowed_0
      rw [ov64 GHh, Option.bind_some, Option.bind_some, (c_pn GHh ha).1]; rfl
    unfold f_L_allowed x_X10_allowed
    rw [e0, ov64 GHh, Option.bind_some, Option.bind_some, (c_pn GHh ha).2]; rfl
  · subst ha
    have e0 : b_L_allowed_0 64 (nI p) b1 125 h = none := by
      unfold b_L_allowed_0 f_X10_allowed b_X10_allowed_0
      rw [ov64 GHh, Option.bind_some, Option.bind_some, (c_p0 GHh hp h0).1]; rfl
    unfold f_L_allowed x_X10_allowed
    rw [e0, ov64 GHh, Option.bind_some, Option.bind_some, (c_p0 GHh hp h0).2]; rfl
  · unfold f_X11_allowed b_X11_allowed_0
    rw [rz_v Z, Option.bind_some, e, Option.bind_some, if_neg n10]; rfl
  · subst ha
    have h0 : hp_r h 66 p ≠ 0 := by have := C.1.1.1; omega
    obtain ⟨v, h1, g', eC, G1, F1, eR⟩ := fin p d hp rfl hd C h0
    refine tsp_ok (g' := g') (v := v) (h1 := h1) ?_ G1 F1 R (fun H RH _ => ?_)
    · unfold f_L_allowed b_L_allowed_0 b_L_allowed_21
      rw [ov64 GHh, Option.bind_some, eC, Option.bind_some, sj125 G1.2.1, Option.bind_some]; rfl
    · obtain ⟨H2, x1, x2, x3, x4, x5⟩ := r_fl0 RH hp hd
      obtain ⟨H3, y1, y2, y3, y4⟩ := eR H2 x2 x5 x4
      refine ⟨H3, ?_, y2, rlf_tr x3 y3, y4⟩
      unfold f_X11_allowed b_X11_allowed_0
      rw [rz_v RH.1, Option.bind_some, x1, Option.bind_some, if_pos rfl]
      exact y1
theorem tp_races (G : GC h g m) (R : GR h g) (fin : ∀ p d, p < 8 → a = nI p → sD g p = some d → CPl h (hp_r h 66 p) d → hp_r h 66 p ≠ 0 → ∃ v h1 g', f_X10_races 64 (nI p) h = some (v, h1) ∧ GC h1 g' (m + 1) ∧ CLF h h1 ∧ ∀ H2, GR H2 g → hp_i H2 102 24 = nI p → hp_i H2 102 0 = 0 → ∃ H3, b_X11_races_12 102 H2 = some (v, H3) ∧ GR H3 g' ∧ RLF H2 H3 ∧ hp_i H3 102 0 = 0) :
    TSP Int32.toInt64 (f_L_races 64 a 125) (f_X11_races 102 a) h m := by
  have GHh := G.2.1
  refine tsp_pl (a := a) G R (fun ha => ?_) (fun p hp ha h0 => ?_) (fun H H' Z e => ?_) (fun p d hp ha hd C => ?_)
  · have e0 : b_L_races_0 64 a 125 h = none := by
      unfold b_L_races_0 f_X10_races b_X10_races_0
      rw [ov64 GHh, Option.bind_some, Option.bind_some, (c_pn GHh ha).1]; rfl
    unfold f_L_races x_X10_races
    rw [e0, ov64 GHh, Option.bind_some, Option.bind_some, (c_pn GHh ha).2]; rfl
  · subst ha
    have e0 : b_L_races_0 64 (nI p) 125 h = none := by
      unfold b_L_races_0 f_X10_races b_X10_races_0
      rw [ov64 GHh, Option.bind_some, Option.bind_some, (c_p0 GHh hp h0).1]; rfl
    unfold f_L_races x_X10_races
    rw [e0, ov64 GHh, Option.bind_some, Option.bind_some, (c_p0 GHh hp h0).2]; rfl
  · unfold f_X11_races b_X11_races_0
    rw [rz_v Z, Option.bind_some, e, Option.bind_some, if_neg n10]; rfl
  · subst ha
    have h0 : hp_r h 66 p ≠ 0 := by have := C.1.1.1; omega
    obtain ⟨v, h1, g', eC, G1, F1, eR⟩ := fin p d hp rfl hd C h0
    refine tsp_ok (g' := g') (v := v) (h1 := h1) ?_ G1 F1 R (fun H RH _ => ?_)
    · unfold f_L_races b_L_races_0 b_L_races_18
      rw [ov64 GHh, Option.bind_some, eC, Option.bind_some, sj125 G1.2.1, Option.bind_some]; rfl
    · obtain ⟨H2, x1, x2, x3, x4, x5⟩ := r_fl0 RH hp hd
      obtain ⟨H3, y1, y2, y3, y4⟩ := eR H2 x2 x5 x4
      refine ⟨H3, ?_, y2, rlf_tr x3 y3, y4⟩
      unfold f_X11_races b_X11_races_0
      rw [rz_v RH.1, Option.bind_some, x1, Option.bind_some, if_pos rfl]
      exact y1
theorem tp_race (G : GC h g m) (R : GR h g) (fin : ∀ p d, p < 8 → a = nI p → sD g p = some d → CPl h (hp_r h 66 p) d → hp_r h 66 p ≠ 0 → ∃ v h1 g', f_X10_race 64 (nI p) b1 b2 h = some (v, h1) ∧ GC h1 g' (m + 1) ∧ CLF h h1 ∧ ∀ H2, GR H2 g → hp_i H2 102 24 = nI p → hp_i H2 102 0 = 0 → ∃ H3, b_X11_race_10 102 b1 b2 H2 = some (v, H3) ∧ GR H3 g' ∧ RLF H2 H3 ∧ hp_i H3 102 0 = 0) :
    TSP Int32.toInt64 (f_L_race 64 a b1 b2 125) (f_X11_race 102 a b1 b2) h m := by
  have GHh := G.2.1
  refine tsp_pl (a := a) G R (fun ha => ?_) (fun p hp ha h0 => ?_) (fun H H' Z e => ?_) (fun p d hp ha hd C => ?_)
  · have e0 : b_L_race_0 64 a b1 b2 125 h = none := by
      unfold b_L_race_0 f_X10_race b_X10_race_0
      rw [ov64 GHh, Option.bind_some, Option.bind_some, (c_pn GHh ha).1]; rfl
    unfold f_L_race x_X10_race
    rw [e0, ov64 GHh, Option.bind_some, Option.bind_some, (c_pn GHh ha).2]; rfl
  · subst ha
    have e0 : b_L_race_0 64 (nI p) b1 b2 125 h = none := by
      unfold b_L_race_0 f_X10_race b_X10_race_0
      rw [ov64 GHh, Option.bind_some, Option.bind_some, (c_p0 GHh hp h0).1]; rfl
    unfold f_L_race x_X10_race
    rw [e0, ov64 GHh, Option.bind_some, Option.bind_some, (c_p0 GHh hp h0).2]; rfl
  · unfold f_X11_race b_X11_race_0
    rw [rz_v Z, Option.bind_some, e, Option.bind_some, if_neg n10]; rfl
  · subst ha
    have h0 : hp_r h 66 p ≠ 0 := by have := C.1.1.1; omega
    obtain ⟨v, h1, g', eC, G1, F1, eR⟩ := fin p d hp rfl hd C h0
    refine tsp_ok (g' := g') (v := v) (h1 := h1) ?_ G1 F1 R (fun H RH _ => ?_)
    · unfold f_L_race b_L_race_0 b_L_race_23
      rw [ov64 GHh, Option.bind_some, eC, Option.bind_some, sj125 G1.2.1, Option.bind_some]; rfl
    · obtain ⟨H2, x1, x2, x3, x4, x5⟩ := r_fl0 RH hp hd
      obtain ⟨H3, y1, y2, y3, y4⟩ := eR H2 x2 x5 x4
      refine ⟨H3, ?_, y2, rlf_tr x3 y3, y4⟩
      unfold f_X11_race b_X11_race_0
      rw [rz_v RH.1, Option.bind_some, x1, Option.bind_some, if_pos rfl]
      exact y1
theorem tp_before (G : GC h g m) (R : GR h g) (fin : ∀ p d, p < 8 → a = nI p → sD g p = some d → CPl h (hp_r h 66 p) d → hp_r h 66 p ≠ 0 → ∃ v h1 g', f_X10_before 64 (nI p) b1 b2 h = some (v, h1) ∧ GC h1 g' (m + 1) ∧ CLF h h1 ∧ ∀ H2, GR H2 g → hp_i H2 102 24 = nI p → hp_i H2 102 0 = 0 → ∃ H3, b_X11_before_10 102 b1 b2 H2 = some (v, H3) ∧ GR H3 g' ∧ RLF H2 H3 ∧ hp_i H3 102 0 = 0) :
    TSP Int32.toInt64 (f_L_before 64 a b1 b2 125) (f_X11_before 102 a b1 b2) h m := by
  have GHh := G.2.1
  refine tsp_pl (a := a) G R (fun ha => ?_) (fun p hp ha h0 => ?_) (fun H H' Z e => ?_) (fun p d hp ha hd C => ?_)
  · have e0 : b_L_before_0 64 a b1 b2 125 h = none := by
      unfold b_L_before_0 f_X10_before b_X10_before_0
      rw [ov64 GHh, Option.bind_some, Option.bind_some, (c_pn GHh ha).1]; rfl
    unfold f_L_before x_X10_before
    rw [e0, ov64 GHh, Option.bind_some, Option.bind_some, (c_pn GHh ha).2]; rfl
  · subst ha
    have e0 : b_L_before_0 64 (nI p) b1 b2 125 h = none := by
      unfold b_L_before_0 f_X10_before b_X10_before_0
      rw [ov64 GHh, Option.bind_some, Option.bind_some, (c_p0 GHh hp h0).1]; rfl
    unfold f_L_before x_X10_before
    rw [e0, ov64 GHh, Option.bind_some, Option.bind_some, (c_p0 GHh hp h0).2]; rfl
  · unfold f_X11_before b_X11_before_0
    rw [rz_v Z, Option.bind_some, e, Option.bind_some, if_neg n10]; rfl
  · subst ha
    have h0 : hp_r h 66 p ≠ 0 := by have := C.1.1.1; omega
    obtain ⟨v, h1, g', eC, G1, F1, eR⟩ := fin p d hp rfl hd C h0
    refine tsp_ok (g' := g') (v := v) (h1 := h1) ?_ G1 F1 R (fun H RH _ => ?_)
    · unfold f_L_before b_L_before_0 b_L_before_23
      rw [ov64 GHh, Option.bind_some, eC, Option.bind_some, sj125 G1.2.1, Option.bind_some]; rfl
    · obtain ⟨H2, x1, x2, x3, x4, x5⟩ := r_fl0 RH hp hd
      obtain ⟨H3, y1, y2, y3, y4⟩ := eR H2 x2 x5 x4
      refine ⟨H3, ?_, y2, rlf_tr x3 y3, y4⟩
      unfold f_X11_before b_X11_before_0
      rw [rz_v RH.1, Option.bind_some, x1, Option.bind_some, if_pos rfl]
      exact y1
theorem tp_fence (G : GC h g m) (R : GR h g) (fin : ∀ p d, p < 8 → a = nI p → sD g p = some d → CPl h (hp_r h 66 p) d → hp_r h 66 p ≠ 0 → ∃ v h1 g', f_X10_fence 64 (nI p) b1 h = some (v, h1) ∧ GC h1 g' (m + 1) ∧ CLF h h1 ∧ ∀ H2, GR H2 g → hp_i H2 102 24 = nI p → hp_i H2 102 0 = 0 → ∃ H3, b_X11_fence_10 102 b1 H2 = some (v, H3) ∧ GR H3 g' ∧ RLF H2 H3 ∧ hp_i H3 102 0 = 0) :
    TSP Int32.toInt64 (f_L_fence 64 a b1 125) (f_X11_fence 102 a b1) h m := by
  have GHh := G.2.1
  refine tsp_pl (a := a) G R (fun ha => ?_) (fun p hp ha h0 => ?_) (fun H H' Z e => ?_) (fun p d hp ha hd C => ?_)
  · have e0 : b_L_fence_0 64 a b1 125 h = none := by
      unfold b_L_fence_0 f_X10_fence b_X10_fence_0
      rw [ov64 GHh, Option.bind_some, Option.bind_some, (c_pn GHh ha).1]; rfl
    unfold f_L_fence x_X10_fence
    rw [e0, ov64 GHh, Option.bind_some, Option.bind_some, (c_pn GHh ha).2]; rfl
  · subst ha
    have e0 : b_L_fence_0 64 (nI p) b1 125 h = none := by
      unfold b_L_fence_0 f_X10_fence b_X10_fence_0
      rw [ov64 GHh, Option.bind_some, Option.bind_some, (c_p0 GHh hp h0).1]; rfl
    unfold f_L_fence x_X10_fence
    rw [e0, ov64 GHh, Option.bind_some, Option.bind_some, (c_p0 GHh hp h0).2]; rfl
  · unfold f_X11_fence b_X11_fence_0
    rw [rz_v Z, Option.bind_some, e, Option.bind_some, if_neg n10]; rfl
  · subst ha
    have h0 : hp_r h 66 p ≠ 0 := by have := C.1.1.1; omega
    obtain ⟨v, h1, g', eC, G1, F1, eR⟩ := fin p d hp rfl hd C h0
    refine tsp_ok (g' := g') (v := v) (h1 := h1) ?_ G1 F1 R (fun H RH _ => ?_)
    · unfold f_L_fence b_L_fence_0 b_L_fence_21
      rw [ov64 GHh, Option.bind_some, eC, Option.bind_some, sj125 G1.2.1, Option.bind_some]; rfl
    · obtain ⟨H2, x1, x2, x3, x4, x5⟩ := r_fl0 RH hp hd
      obtain ⟨H3, y1, y2, y3, y4⟩ := eR H2 x2 x5 x4
      refine ⟨H3, ?_, y2, rlf_tr x3 y3, y4⟩
      unfold f_X11_fence b_X11_fence_0
      rw [rz_v RH.1, Option.bind_some, x1, Option.bind_some, if_pos rfl]
      exact y1
theorem tp_print (G : GC h g m) (R : GR h g) (fin : ∀ p d, p < 8 → a = nI p → sD g p = some d → CPl h (hp_r h 66 p) d → hp_r h 66 p ≠ 0 → ∃ v h1 g', f_X10_print 64 (nI p) h = some (v, h1) ∧ GC h1 g' (m + 1) ∧ CLF h h1 ∧ ∀ H2, GR H2 g → hp_i H2 102 24 = nI p → hp_i H2 102 0 = 0 → ∃ H3, b_X11_print_10 102 H2 = some (v, H3) ∧ GR H3 g' ∧ RLF H2 H3 ∧ hp_i H3 102 0 = 0) :
    TSP Int32.toInt64 (f_L_print 64 a 125) (f_X11_print 102 a) h m := by
  have GHh := G.2.1
  refine tsp_pl (a := a) G R (fun ha => ?_) (fun p hp ha h0 => ?_) (fun H H' Z e => ?_) (fun p d hp ha hd C => ?_)
  · have e0 : b_L_print_0 64 a 125 h = none := by
      unfold b_L_print_0 f_X10_print b_X10_print_0
      rw [ov64 GHh, Option.bind_some, show g_r h 64 10 4 = some 72 from (if_pos GHh.1.1).trans (by rw [GHh.1.2.2.2.2.2.1]), Option.bind_some, Option.bind_some, (c_pn GHh ha).1]; rfl
    unfold f_L_print x_X10_print
    rw [e0, ov64 GHh, Option.bind_some, show g_r h 64 10 4 = some 72 from (if_pos GHh.1.1).trans (by rw [GHh.1.2.2.2.2.2.1]), Option.bind_some, Option.bind_some, (c_pn GHh ha).2]; rfl
  · subst ha
    have e0 : b_L_print_0 64 (nI p) 125 h = none := by
      unfold b_L_print_0 f_X10_print b_X10_print_0
      rw [ov64 GHh, Option.bind_some, show g_r h 64 10 4 = some 72 from (if_pos GHh.1.1).trans (by rw [GHh.1.2.2.2.2.2.1]), Option.bind_some, Option.bind_some, (c_p0 GHh hp h0).1]; rfl
    unfold f_L_print x_X10_print
    rw [e0, ov64 GHh, Option.bind_some, show g_r h 64 10 4 = some 72 from (if_pos GHh.1.1).trans (by rw [GHh.1.2.2.2.2.2.1]), Option.bind_some, Option.bind_some, (c_p0 GHh hp h0).2]; rfl
  · unfold f_X11_print b_X11_print_0
    rw [rz_v Z, Option.bind_some, e, Option.bind_some, if_neg n10]; rfl
  · subst ha
    have h0 : hp_r h 66 p ≠ 0 := by have := C.1.1.1; omega
    obtain ⟨v, h1, g', eC, G1, F1, eR⟩ := fin p d hp rfl hd C h0
    refine tsp_ok (g' := g') (v := v) (h1 := h1) ?_ G1 F1 R (fun H RH _ => ?_)
    · unfold f_L_print b_L_print_0 b_L_print_18
      rw [ov64 GHh, Option.bind_some, eC, Option.bind_some, sj125 G1.2.1, Option.bind_some]; rfl
    · obtain ⟨H2, x1, x2, x3, x4, x5⟩ := r_fl0 RH hp hd
      obtain ⟨H3, y1, y2, y3, y4⟩ := eR H2 x2 x5 x4
      refine ⟨H3, ?_, y2, rlf_tr x3 y3, y4⟩
      unfold f_X11_print b_X11_print_0
      rw [rz_v RH.1, Option.bind_some, x1, Option.bind_some, if_pos rfl]
      exact y1
theorem tp_witness (G : GC h g m) (R : GR h g) (fin : ∀ p d, p < 8 → a = nI p → sD g p = some d → CPl h (hp_r h 66 p) d → hp_r h 66 p ≠ 0 → ∃ v h1 g', f_X10_witness 64 (nI p) h = some (v, h1) ∧ GC h1 g' (m + 1) ∧ CLF h h1 ∧ ∀ H2, GR H2 g → hp_i H2 102 24 = nI p → hp_i H2 102 0 = 0 → ∃ H3, b_X11_witness_10 102 H2 = some (v, H3) ∧ GR H3 g' ∧ RLF H2 H3 ∧ hp_i H3 102 0 = 0) :
    TSP Int32.toInt64 (f_L_witness 64 a 125) (f_X11_witness 102 a) h m := by
  have GHh := G.2.1
  refine tsp_pl (a := a) G R (fun ha => ?_) (fun p hp ha h0 => ?_) (fun H H' Z e => ?_) (fun p d hp ha hd C => ?_)
  · have e0 : b_L_witness_0 64 a 125 h = none := by
      unfold b_L_witness_0 f_X10_witness b_X10_witness_0
      rw [ov64 GHh, Option.bind_some, show g_r h 64 10 5 = some 74 from (if_pos GHh.1.1).trans (by rw [GHh.1.2.2.2.2.2.2.1]), Option.bind_some, Option.bind_some, (c_pn GHh ha).1]; rfl
    unfold f_L_witness x_X10_witness
    rw [e0, ov64 GHh, Option.bind_some, show g_r h 64 10 5 = some 74 from (if_pos GHh.1.1).trans (by rw [GHh.1.2.2.2.2.2.2.1]), Option.bind_some, Option.bind_some, (c_pn GHh ha).2]; rfl
  · subst ha
    have e0 : b_L_witness_0 64 (nI p) 125 h = none := by
      unfold b_L_witness_0 f_X10_witness b_X10_witness_0
      rw [ov64 GHh, Option.bind_some, show g_r h 64 10 5 = some 74 from (if_pos GHh.1.1).trans (by rw [GHh.1.2.2.2.2.2.2.1]), Option.bind_some, Option.bind_some, (c_p0 GHh hp h0).1]; rfl
    unfold f_L_witness x_X10_witness
    rw [e0, ov64 GHh, Option.bind_some, show g_r h 64 10 5 = some 74 from (if_pos GHh.1.1).trans (by rw [GHh.1.2.2.2.2.2.2.1]), Option.bind_some, Option.bind_some, (c_p0 GHh hp h0).2]; rfl
  · unfold f_X11_witness b_X11_witness_0
    rw [rz_v Z, Option.bind_some, e, Option.bind_some, if_neg n10]; rfl
  · subst ha
    have h0 : hp_r h 66 p ≠ 0 := by have := C.1.1.1; omega
    obtain ⟨v, h1, g', eC, G1, F1, eR⟩ := fin p d hp rfl hd C h0
    refine tsp_ok (g' := g') (v := v) (h1 := h1) ?_ G1 F1 R (fun H RH _ => ?_)
    · unfold f_L_witness b_L_witness_0 b_L_witness_18
      rw [ov64 GHh, Option.bind_some, eC, Option.bind_some, sj125 G1.2.1, Option.bind_some]; rfl
    · obtain ⟨H2, x1, x2, x3, x4, x5⟩ := r_fl0 RH hp hd
      obtain ⟨H3, y1, y2, y3, y4⟩ := eR H2 x2 x5 x4
      refine ⟨H3, ?_, y2, rlf_tr x3 y3, y4⟩
      unfold f_X11_witness b_X11_witness_0
      rw [rz_v RH.1, Option.bind_some, x1, Option.bind_some, if_pos rfl]
      exact y1
end
