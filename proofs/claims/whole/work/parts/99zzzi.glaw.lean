/-! ===== the law's loop ===== -/
section
variable {L : Nat} {xs : Nat → Int32} {h : AH} {g : SG} {m a : Nat} {r23 : Nat → Nat → Nat → Nat → Int32 → AH → Option (Int32 × AH)}
theorem sx_k {k : Nat} (ha : a + 6 ≤ L) (hL : L ≤ 3072) (hk : k < 6) : sc_i L xs 31 (nI (a + k)) = some (xs (a + k)) := by
  have : sc_i L xs 31 (nI (a + k)) = some (xs (nI (a + k)).toNatClampNeg) := if_pos ⟨rfl, nI_pos (by omega), by rw [nI_clamp (by omega)]; omega⟩
  rw [this, nI_clamp (by omega)]
theorem sx_1 (ha : a + 6 ≤ L) (hL : L ≤ 3072) : sc_i L xs 31 (nI a + (1 : Int32)) = some (xs (a + 1)) := by rw [da]; exact sx_k ha hL (by omega)
theorem sx_2 (ha : a + 6 ≤ L) (hL : L ≤ 3072) : sc_i L xs 31 (nI a + (2 : Int32)) = some (xs (a + 2)) := by rw [da]; exact sx_k ha hL (by omega)
theorem sx_3 (ha : a + 6 ≤ L) (hL : L ≤ 3072) : sc_i L xs 31 (nI a + (3 : Int32)) = some (xs (a + 3)) := by rw [da]; exact sx_k ha hL (by omega)
theorem sx_4 (ha : a + 6 ≤ L) (hL : L ≤ 3072) : sc_i L xs 31 (nI a + (4 : Int32)) = some (xs (a + 4)) := by rw [da]; exact sx_k ha hL (by omega)
theorem sx_5 (ha : a + 6 ≤ L) (hL : L ≤ 3072) : sc_i L xs 31 (nI a + (5 : Int32)) = some (xs (a + 5)) := by rw [da]; exact sx_k ha hL (by omega)
/-- a call of the law goes on -/
def LGo (r23 : Nat → Nat → Nat → Nat → Int32 → AH → Option (Int32 × AH)) (a m : Nat) (x : Option (Int32 × AH)) : Prop := ∃ h2 g', x = r23 31 64 102 125 (nI (a + 6)) h2 ∧ GC h2 g' (m + 1) ∧ GR h2 g'
theorem lj_125 (G : GH h) : l_j h 125 (0 : Int32) = some (hp_j h 125 0) := by
  have o := G.2.2.2.2.2.2.1.1
  have l := G.2.2.2.2.2.2.1.2
  have e : l_j h 125 (nI 0) = some (hp_j h 125 (nI 0).toNatClampNeg) := if_pos ⟨o, nI_pos (by omega), by rw [nI_clamp (by omega)]; omega⟩
  rw [show (0 : Int32) = nI 0 from rfl, e, nI_clamp (by omega)]
theorem thr_e (R : GR h g) : f_X11_thrown 102 h = some (hp_i h 102 0, h) := by
  unfold f_X11_thrown b_X11_thrown_0
  rw [rz_g R.1, Option.bind_some]
theorem e_1569 {H : AH} : b_L_law_1569 L xs r23 31 64 102 125 (nI a) H = r23 31 64 102 125 (nI (a + 6)) H := by
  unfold b_L_law_1569
  rw [da]
theorem lw_152 (G : GC h g m) (R : GR h g) (ha : a + 6 ≤ L) (hL : L ≤ 3072) : LGo r23 a m (b_L_law_152 L xs r23 31 64 102 125 (nI a) h) := by
  obtain ⟨v, h1, h2, g', e1, e2, G2, R2, ok1⟩ := s_feed (a1 := xs (a + 1)) (a2 := xs (a + 2)) (a3 := xs (a + 3)) (a4 := xs (a + 4)) (a5 := xs (a + 5)) G R
  refine ⟨h2, g', ?_, G2, R2⟩
  unfold b_L_law_152
  rw [sx_1 ha hL, Option.bind_some, sx_2 ha hL, Option.bind_some, sx_3 ha hL, Option.bind_some, sx_4 ha hL, Option.bind_some, sx_5 ha hL, Option.bind_some, ov64 G.2.1, Option.bind_some, e1, Option.bind_some, Option.bind_some, Option.bind_some, Option.bind_some, Option.bind_some, Option.bind_some, show ok_v h1 102 11 = some () from if_pos ok1, Option.bind_some, e2, Option.bind_some, if_pos rfl]
  exact e_1569
theorem lw_225 (G : GC h g m) (R : GR h g) (ha : a + 6 ≤ L) (hL : L ≤ 3072) : LGo r23 a m (b_L_law_225 L xs r23 31 64 102 125 (nI a) h) := by
  obtain ⟨v, h1, h2, g', e1, e2, G2, R2, ok1⟩ := s_end (a := xs (a + 1)) G R
  refine ⟨h2, g', ?_, G2, R2⟩
  unfold b_L_law_225
  rw [sx_1 ha hL, Option.bind_some, ov64 G.2.1, Option.bind_some, e1, Option.bind_some, Option.bind_some, show ok_v h1 102 11 = some () from if_pos ok1, Option.bind_some, e2, Option.bind_some, if_pos rfl]
  exact e_1569
theorem lw_250 (G : GC h g m) (R : GR h g) (ha : a + 6 ≤ L) (hL : L ≤ 3072) (hm : m ≤ 600) : LGo r23 a m (b_L_law_250 L xs r23 31 64 102 125 (nI a) h) := by
  obtain ⟨k, h1, b, h2, g', e1, e2, tk, tj, G2, R2, ok1⟩ := s_load (a := xs (a + 1)) G R
  refine ⟨h2, g', ?_, G2, R2⟩
  unfold b_L_law_250
  rw [sx_1 ha hL, Option.bind_some, e1, Option.bind_some, Option.bind_some, show ok_v h1 102 11 = some () from if_pos ok1, Option.bind_some, e2, Option.bind_some, rz_v R2.1, Option.bind_some, thr_e R2, Option.bind_some, if_pos tk]
  unfold b_L_law_286
  by_cases c : k = 0
  · rw [if_pos c]
    unfold b_L_law_291
    rw [lj_125 G2.2.1, Option.bind_some, tj c]
    rw [if_pos (lg0.mpr rfl)]
    exact e_1569
  · rw [if_neg c]
    exact e_1569
theorem lw_306 (G : GC h g m) (R : GR h g) (ha : a + 6 ≤ L) (hL : L ≤ 3072) : LGo r23 a m (b_L_law_306 L xs r23 31 64 102 125 (nI a) h) := by
  obtain ⟨v, h1, h2, g', e1, e2, G2, R2, ok1⟩ := s_fault (a := xs (a + 1)) G R
  refine ⟨h2, g', ?_, G2, R2⟩
  unfold b_L_law_306
  rw [sx_1 ha hL, Option.bind_some, ov64 G.2.1, Option.bind_some, e1, Option.bind_some, Option.bind_some, show ok_v h1 102 11 = some () from if_pos ok1, Option.bind_some, e2, Option.bind_some, if_pos rfl]
  exact e_1569
theorem lw_331 (G : GC h g m) (R : GR h g) (ha : a + 6 ≤ L) (hL : L ≤ 3072) (hm : m ≤ 600) : LGo r23 a m (b_L_law_331 L xs r23 31 64 102 125 (nI a) h) := by
  obtain ⟨k, h1, b, h2, g', e1, e2, tk, tj, G2, R2, ok1⟩ := s_drop (a := xs (a + 1)) G R
  refine ⟨h2, g', ?_, G2, R2⟩
  unfold b_L_law_331
  rw [sx_1 ha hL, Option.bind_some, e1, Option.bind_some, Option.bind_some, show ok_v h1 102 11 = some () from if_pos ok1, Option.bind_some, e2, Option.bind_some, rz_v R2.1, Option.bind_some, thr_e R2, Option.bind_some, if_pos tk]
  unfold b_L_law_367
  by_cases c : k = 0
  · rw [if_pos c]
    unfold b_L_law_372
    rw [lj_125 G2.2.1, Option.bind_some, tj c]
    by_cases z : b = 0
    · rw [if_pos z]
      unfold b_L_law_384 b_L_law_385
      rw [if_pos (lg0.mpr (show lgb b = 0 from if_pos z))]
      exact e_1569
    · rw [if_neg z]
      unfold b_L_law_380 b_L_law_385
      rw [if_pos (lg0.mpr (show lgb b = 1 from if_neg z))]
      exact e_1569
  · rw [if_neg c]
    exact e_1569
theorem lw_394 (G : GC h g m) (R : GR h g) (ha : a + 6 ≤ L) (hL : L ≤ 3072) (hm : m ≤ 600) : LGo r23 a m (b_L_law_394 L xs r23 31 64 102 125 (nI a) h) := by
  obtain ⟨k, h1, b, h2, g', e1, e2, tk, tj, G2, R2, ok1⟩ := s_look (a := xs (a + 1)) (b := xs (a + 2)) G R
  refine ⟨h2, g', ?_, G2, R2⟩
  unfold b_L_law_394
  rw [sx_1 ha hL, Option.bind_some, sx_2 ha hL, Option.bind_some, e1, Option.bind_some, Option.bind_some, Option.bind_some, show ok_v h1 102 11 = some () from if_pos ok1, Option.bind_some, e2, Option.bind_some, rz_v R2.1, Option.bind_some, thr_e R2, Option.bind_some, if_pos tk]
  unfold b_L_law_442
  by_cases c : k = 0
  · rw [if_pos c]
    unfold b_L_law_447
    rw [lj_125 G2.2.1, Option.bind_some, tj c]
    rw [if_pos (lg0.mpr rfl)]
    exact e_1569
  · rw [if_neg c]
    exact e_1569
theorem lw_462 (G : GC h g m) (R : GR h g) (ha : a + 6 ≤ L) (hL : L ≤ 3072) (hm : m ≤ 600) : LGo r23 a m (b_L_law_462 L xs r23 31 64 102 125 (nI a) h) := by
  obtain ⟨k, h1, b, h2, g', e1, e2, tk, tj, G2, R2, ok1⟩ := s_kind (a := xs (a + 1)) (b := xs (a + 2)) G R
  refine ⟨h2, g', ?_, G2, R2⟩
  unfold b_L_law_462
  rw [sx_1 ha hL, Option.bind_some, sx_2 ha hL, Option.bind_some, e1, Option.bind_some, Option.bind_some, Option.bind_some, show ok_v h1 102 11 = some () from if_pos ok1, Option.bind_some, e2, Option.bind_some, rz_v R2.1, Option.bind_some, thr_e R2, Option.bind_some, if_pos tk]
  unfold b_L_law_510
  by_cases c : k = 0
  · rw [if_pos c]
    unfold b_L_law_515
    rw [lj_125 G2.2.1, Option.bind_some, tj c]
    rw [if_pos (lg0.mpr rfl)]
    exact e_1569
  · rw [if_neg c]
    exact e_1569
theorem lw_530 (G : GC h g m) (R : GR h g) (ha : a + 6 ≤ L) (hL : L ≤ 3072) (hm : m ≤ 600) : LGo r23 a m (b_L_law_530 L xs r23 31 64 102 125 (nI a) h) := by
  obtain ⟨k, h1, b, h2, g', e1, e2, tk, tj, G2, R2, ok1⟩ := s_action (a := xs (a + 1)) (b := xs (a + 2)) (c := xs (a + 3)) G R
  refine ⟨h2, g', ?_, G2, R2⟩
  unfold b_L_law_530
  rw [sx_1 ha hL, Option.bind_some, sx_2 ha hL, Option.bind_some, sx_3 ha hL, Option.bind_some, e1, Option.bind_some, Option.bind_some, Option.bind_some, Option.bind_some, show ok_v h1 102 11 = some () from if_pos ok1, Option.bind_some, e2, Option.bind_some, rz_v R2.1, Option.bind_some, thr_e R2, Option.bind_some, if_pos tk]
  unfold b_L_law_590
  by_cases c : k = 0
  · rw [if_pos c]
    unfold b_L_law_595
    rw [lj_125 G2.2.1, Option.bind_some, tj c]
    rw [if_pos (lg0.mpr rfl)]
    exact e_1569
  · rw [if_neg c]
    exact e_1569
theorem lw_610 (G : GC h g m) (R : GR h g) (ha : a + 6 ≤ L) (hL : L ≤ 3072) (hm : m ≤ 600) : LGo r23 a m (b_L_law_610 L xs r23 31 64 102 125 (nI a) h) := by
  obtain ⟨k, h1, b, h2, g', e1, e2, tk, tj, G2, R2, ok1⟩ := s_print (a1 := xs (a + 1)) G R
  refine ⟨h2, g', ?_, G2, R2⟩
  unfold b_L_law_610
  rw [sx_1 ha hL, Option.bind_some, e1, Option.bind_some, Option.bind_some, show ok_v h1 102 11 = some () from if_pos ok1, Option.bind_some, e2, Option.bind_some, rz_v R2.1, Option.bind_some, thr_e R2, Option.bind_some, if_pos tk]
  unfold b_L_law_646
  by_cases c : k = 0
  · rw [if_pos c]
    unfold b_L_law_651
    rw [lj_125 G2.2.1, Option.bind_some, tj c]
    rw [if_pos (lg0.mpr rfl)]
    exact e_1569
  · rw [if_neg c]
    exact e_1569
theorem lw_666 (G : GC h g m) (R : GR h g) (ha : a + 6 ≤ L) (hL : L ≤ 3072) : LGo r23 a m (b_L_law_666 L xs r23 31 64 102 125 (nI a) h) := by
  obtain ⟨v, h1, h2, g', e1, e2, G2, R2, ok1⟩ := s_out (a := xs (a + 1)) G R
  refine ⟨h2, g', ?_, G2, R2⟩
  unfold b_L_law_666
  rw [sx_1 ha hL, Option.bind_some, ov64 G.2.1, Option.bind_some, e1, Option.bind_some, Option.bind_some, show ok_v h1 102 11 = some () from if_pos ok1, Option.bind_some, e2, Option.bind_some, if_pos rfl]
  exact e_1569
theorem lw_691 (G : GC h g m) (R : GR h g) (ha : a + 6 ≤ L) (hL : L ≤ 3072) : LGo r23 a m (b_L_law_691 L xs r23 31 64 102 125 (nI a) h) := by
  obtain ⟨v, h1, h2, g', e1, e2, G2, R2, ok1⟩ := s_take G R
  refine ⟨h2, g', ?_, G2, R2⟩
  unfold b_L_law_691
  rw [ov64 G.2.1, Option.bind_some, e1, Option.bind_some, show ok_v h1 102 11 = some () from if_pos ok1, Option.bind_some, e2, Option.bind_some, if_pos rfl]
  exact e_1569
theorem lw_704 (G : GC h g m) (R : GR h g) (ha : a + 6 ≤ L) (hL : L ≤ 3072) (hm : m ≤ 600) : LGo r23 a m (b_L_law_704 L xs r23 31 64 102 125 (nI a) h) := by
  obtain ⟨k, h1, b, h2, g', e1, e2, tk, tj, G2, R2, ok1⟩ := s_outcomes (a := xs (a + 1)) (b := xs (a + 2)) G R hm
  refine ⟨h2, g', ?_, G2, R2⟩
  unfold b_L_law_704
  rw [sx_1 ha hL, Option.bind_some, sx_2 ha hL, Option.bind_some, e1, Option.bind_some, Option.bind_some, Option.bind_some, show ok_v h1 102 11 = some () from if_pos ok1, Option.bind_some, e2, Option.bind_some, rz_v R2.1, Option.bind_some, thr_e R2, Option.bind_some, if_pos tk]
  unfold b_L_law_752
  by_cases c : k = 0
  · rw [if_pos c]
    unfold b_L_law_757
    rw [lj_125 G2.2.1, Option.bind_some, tj c]
    rw [if_pos (lg0.mpr rfl)]
    exact e_1569
  · rw [if_neg c]
    exact e_1569
theorem lw_772 (G : GC h g m) (R : GR h g) (ha : a + 6 ≤ L) (hL : L ≤ 3072) (hm : m ≤ 600) : LGo r23 a m (b_L_law_772 L xs r23 31 64 102 125 (nI a) h) := by
  obtain ⟨k, h1, b, h2, g', e1, e2, tk, tj, G2, R2, ok1⟩ := s_value (a := xs (a + 1)) (b := xs (a + 2)) (b2 := xs (a + 3)) (b3 := xs (a + 4)) G R hm
  refine ⟨h2, g', ?_, G2, R2⟩
  unfold b_L_law_772
  rw [sx_1 ha hL, Option.bind_some, sx_2 ha hL, Option.bind_some, sx_3 ha hL, Option.bind_some, sx_4 ha hL, Option.bind_some, e1, Option.bind_some, Option.bind_some, Option.bind_some, Option.bind_some, Option.bind_some, show ok_v h1 102 11 = some () from if_pos ok1, Option.bind_some, e2, Option.bind_some, rz_v R2.1, Option.bind_some, thr_e R2, Option.bind_some, if_pos tk]
  unfold b_L_law_844
  by_cases c : k = 0
  · rw [if_pos c]
    unfold b_L_law_849
    rw [lj_125 G2.2.1, Option.bind_some, tj c]
    rw [if_pos (lg0.mpr rfl)]
    exact e_1569
  · rw [if_neg c]
    exact e_1569
theorem lw_864 (G : GC h g m) (R : GR h g) (ha : a + 6 ≤ L) (hL : L ≤ 3072) (hm : m ≤ 600) : LGo r23 a m (b_L_law_864 L xs r23 31 64 102 125 (nI a) h) := by
  obtain ⟨k, h1, b, h2, g', e1, e2, tk, tj, G2, R2, ok1⟩ := s_stuck (a := xs (a + 1)) (b := xs (a + 2)) (b2 := xs (a + 3)) G R hm
  refine ⟨h2, g', ?_, G2, R2⟩
  unfold b_L_law_864
  rw [sx_1 ha hL, Option.bind_some, sx_2 ha hL, Option.bind_some, sx_3 ha hL, Option.bind_some, e1, Option.bind_some, Option.bind_some, Option.bind_some, Option.bind_some, show ok_v h1 102 11 = some () from if_pos ok1, Option.bind_some, e2, Option.bind_some, rz_v R2.1, Option.bind_some, thr_e R2, Option.bind_some, if_pos tk]
  unfold b_L_law_924
  by_cases c : k = 0
  · rw [if_pos c]
    unfold b_L_law_929
    rw [lj_125 G2.2.1, Option.bind_some, tj c]
    rw [if_pos (lg0.mpr rfl)]
    exact e_1569
  · rw [if_neg c]
    exact e_1569
theorem lw_944 (G : GC h g m) (R : GR h g) (ha : a + 6 ≤ L) (hL : L ≤ 3072) : LGo r23 a m (b_L_law_944 L xs r23 31 64 102 125 (nI a) h) := by
  obtain ⟨v, h1, h2, g', e1, e2, G2, R2, ok1⟩ := s_wish (a := xs (a + 1)) (b := xs (a + 2)) G R
  refine ⟨h2, g', ?_, G2, R2⟩
  unfold b_L_law_944
  rw [sx_1 ha hL, Option.bind_some, sx_2 ha hL, Option.bind_some, ov64 G.2.1, Option.bind_some, e1, Option.bind_some, Option.bind_some, Option.bind_some, show ok_v h1 102 11 = some () from if_pos ok1, Option.bind_some, e2, Option.bind_some, if_pos rfl]
  exact e_1569
theorem lw_981 (G : GC h g m) (R : GR h g) (ha : a + 6 ≤ L) (hL : L ≤ 3072) (hm : m ≤ 600) : LGo r23 a m (b_L_law_981 L xs r23 31 64 102 125 (nI a) h) := by
  obtain ⟨k, h1, b, h2, g', e1, e2, tk, tj, G2, R2, ok1⟩ := s_allowed (a := xs (a + 1)) (b := xs (a + 2)) G R hm
  refine ⟨h2, g', ?_, G2, R2⟩
  unfold b_L_law_981
  rw [sx_1 ha hL, Option.bind_some, sx_2 ha hL, Option.bind_some, e1, Option.bind_some, Option.bind_some, Option.bind_some, show ok_v h1 102 11 = some () from if_pos ok1, Option.bind_some, e2, Option.bind_some, rz_v R2.1, Option.bind_some, thr_e R2, Option.bind_some, if_pos tk]
  unfold b_L_law_1029
  by_cases c : k = 0
  · rw [if_pos c]
    unfold b_L_law_1034
    rw [lj_125 G2.2.1, Option.bind_some, tj c]
    rw [if_pos (lg0.mpr rfl)]
    exact e_1569
  · rw [if_neg c]
    exact e_1569
theorem lw_1049 (G : GC h g m) (R : GR h g) (ha : a + 6 ≤ L) (hL : L ≤ 3072) (hm : m ≤ 600) : LGo r23 a m (b_L_law_1049 L xs r23 31 64 102 125 (nI a) h) := by
  obtain ⟨k, h1, b, h2, g', e1, e2, tk, tj, G2, R2, ok1⟩ := s_witness (a := xs (a + 1)) G R hm
  refine ⟨h2, g', ?_, G2, R2⟩
  unfold b_L_law_1049
  rw [sx_1 ha hL, Option.bind_some, e1, Option.bind_some, Option.bind_some, show ok_v h1 102 11 = some () from if_pos ok1, Option.bind_some, e2, Option.bind_some, rz_v R2.1, Option.bind_some, thr_e R2, Option.bind_some, if_pos tk]
  unfold b_L_law_1085
  by_cases c : k = 0
  · rw [if_pos c]
    unfold b_L_law_1090
    rw [lj_125 G2.2.1, Option.bind_some, tj c]
    rw [if_pos (lg0.mpr rfl)]
    exact e_1569
  · rw [if_neg c]
    exact e_1569
theorem lw_1105 (G : GC h g m) (R : GR h g) (ha : a + 6 ≤ L) (hL : L ≤ 3072) : LGo r23 a m (b_L_law_1105 L xs r23 31 64 102 125 (nI a) h) := by
  obtain ⟨v, h1, h2, g', e1, e2, G2, R2, ok1⟩ := s_step (a := xs (a + 1)) G R
  refine ⟨h2, g', ?_, G2, R2⟩
  unfold b_L_law_1105
  rw [sx_1 ha hL, Option.bind_some, ov64 G.2.1, Option.bind_some, e1, Option.bind_some, Option.bind_some, show ok_v h1 102 11 = some () from if_pos ok1, Option.bind_some, e2, Option.bind_some, if_pos rfl]
  exact e_1569
theorem lw_1130 (G : GC h g m) (R : GR h g) (ha : a + 6 ≤ L) (hL : L ≤ 3072) (hm : m ≤ 600) : LGo r23 a m (b_L_law_1130 L xs r23 31 64 102 125 (nI a) h) := by
  obtain ⟨k, h1, b, h2, g', e1, e2, tk, tj, G2, R2, ok1⟩ := s_races (a1 := xs (a + 1)) G R hm
  refine ⟨h2, g', ?_, G2, R2⟩
  unfold b_L_law_1130
  rw [sx_1 ha hL, Option.bind_some, e1, Option.bind_some, Option.bind_some, show ok_v h1 102 11 = some () from if_pos ok1, Option.bind_some, e2, Option.bind_some, rz_v R2.1, Option.bind_some, thr_e R2, Option.bind_some, if_pos tk]
  unfold b_L_law_1166
  by_cases c : k = 0
  · rw [if_pos c]
    unfold b_L_law_1171
    rw [lj_125 G2.2.1, Option.bind_some, tj c]
    rw [if_pos (lg0.mpr rfl)]
    exact e_1569
  · rw [if_neg c]
    exact e_1569
theorem lw_1186 (G : GC h g m) (R : GR h g) (ha : a + 6 ≤ L) (hL : L ≤ 3072) (hm : m ≤ 600) : LGo r23 a m (b_L_law_1186 L xs r23 31 64 102 125 (nI a) h) := by
  obtain ⟨k, h1, b, h2, g', e1, e2, tk, tj, G2, R2, ok1⟩ := s_race (a1 := xs (a + 1)) (b1 := xs (a + 2)) (b2 := xs (a + 3)) G R hm
  refine ⟨h2, g', ?_, G2, R2⟩
  unfold b_L_law_1186
  rw [sx_1 ha hL, Option.bind_some, sx_2 ha hL, Option.bind_some, sx_3 ha hL, Option.bind_some, e1, Option.bind_some, Option.bind_some, Option.bind_some, Option.bind_some, show ok_v h1 102 11 = some () from if_pos ok1, Option.bind_some, e2, Option.bind_some, rz_v R2.1, Option.bind_some, thr_e R2, Option.bind_some, if_pos tk]
  unfold b_L_law_1246
  by_cases c : k = 0
  · rw [if_pos c]
    unfold b_L_law_1251
    rw [lj_125 G2.2.1, Option.bind_some, tj c]
    rw [if_pos (lg0.mpr rfl)]
    exact e_1569
  · rw [if_neg c]
    exact e_1569
theorem lw_1266 (G : GC h g m) (R : GR h g) (ha : a + 6 ≤ L) (hL : L ≤ 3072) (hm : m ≤ 600) : LGo r23 a m (b_L_law_1266 L xs r23 31 64 102 125 (nI a) h) := by
  obtain ⟨k, h1, b, h2, g', e1, e2, tk, tj, G2, R2, ok1⟩ := s_before (a := xs (a + 1)) (b1 := xs (a + 2)) (b2 := xs (a + 3)) G R hm
  refine ⟨h2, g', ?_, G2, R2⟩
  unfold b_L_law_1266
  rw [sx_1 ha hL, Option.bind_some, sx_2 ha hL, Option.bind_some, sx_3 ha hL, Option.bind_some, e1, Option.bind_some, Option.bind_some, Option.bind_some, Option.bind_some, show ok_v h1 102 11 = some () from if_pos ok1, Option.bind_some, e2, Option.bind_some, rz_v R2.1, Option.bind_some, thr_e R2, Option.bind_some, if_pos tk]
  unfold b_L_law_1326
  by_cases c : k = 0
  · rw [if_pos c]
    unfold b_L_law_1331
    rw [lj_125 G2.2.1, Option.bind_some, tj c]
    rw [if_pos (lg0.mpr rfl)]
    exact e_1569
  · rw [if_neg c]
    exact e_1569
theorem lw_1346 (G : GC h g m) (R : GR h g) (ha : a + 6 ≤ L) (hL : L ≤ 3072) (hm : m ≤ 600) : LGo r23 a m (b_L_law_1346 L xs r23 31 64 102 125 (nI a) h) := by
  obtain ⟨k, h1, b, h2, g', e1, e2, tk, tj, G2, R2, ok1⟩ := s_fence (a1 := xs (a + 1)) (b1 := xs (a + 2)) G R hm
  refine ⟨h2, g', ?_, G2, R2⟩
  unfold b_L_law_1346
  rw [sx_1 ha hL, Option.bind_some, sx_2 ha hL, Option.bind_some, e1, Option.bind_some, Option.bind_some, Option.bind_some, show ok_v h1 102 11 = some () from if_pos ok1, Option.bind_some, e2, Option.bind_some, rz_v R2.1, Option.bind_some, thr_e R2, Option.bind_some, if_pos tk]
  unfold b_L_law_1394
  by_cases c : k = 0
  · rw [if_pos c]
    unfold b_L_law_1399
    rw [lj_125 G2.2.1, Option.bind_some, tj c]
    rw [if_pos (lg0.mpr rfl)]
    exact e_1569
  · rw [if_neg c]
    exact e_1569
theorem lw_1414 (G : GC h g m) (R : GR h g) (ha : a + 6 ≤ L) (hL : L ≤ 3072) (hm : m ≤ 600) : LGo r23 a m (b_L_law_1414 L xs r23 31 64 102 125 (nI a) h) := by
  obtain ⟨k, h1, b, h2, g', e1, e2, tk, tj, G2, R2, ok1⟩ := s_make (a1 := xs (a + 1)) (a2 := xs (a + 2)) (a3 := xs (a + 3)) G R
  refine ⟨h2, g', ?_, G2, R2⟩
  unfold b_L_law_1414
  rw [sx_1 ha hL, Option.bind_some, sx_2 ha hL, Option.bind_some, sx_3 ha hL, Option.bind_some, e1, Option.bind_some, Option.bind_some, Option.bind_some, Option.bind_some, show ok_v h1 102 11 = some () from if_pos ok1, Option.bind_some, e2, Option.bind_some, rz_v R2.1, Option.bind_some, thr_e R2, Option.bind_some, if_pos tk]
  unfold b_L_law_1474
  by_cases c : k = 0
  · rw [if_pos c]
    unfold b_L_law_1479
    rw [lj_125 G2.2.1, Option.bind_some, tj c]
    rw [if_pos (lg0.mpr rfl)]
    exact e_1569
  · rw [if_neg c]
    exact e_1569
theorem lw_1494 (G : GC h g m) (R : GR h g) (ha : a + 6 ≤ L) (hL : L ≤ 3072) (hm : m ≤ 600) (HS : ∀ {h g m} {a b : Int32}, GC h g m → GR h g → m ≤ 600 → TSP lgb (f_L_same 64 a b 125) (f_X11_same 102 a b) h m) : LGo r23 a m (b_L_law_1494 L xs r23 31 64 102 125 (nI a) h) := by
  obtain ⟨k, h1, b, h2, g', e1, e2, tk, tj, G2, R2, ok1⟩ := HS (a := xs (a + 1)) (b := xs (a + 2)) G R hm
  refine ⟨h2, g', ?_, G2, R2⟩
  unfold b_L_law_1494
  rw [sx_1 ha hL, Option.bind_some, sx_2 ha hL, Option.bind_some, e1, Option.bind_some, Option.bind_some, Option.bind_some, show ok_v h1 102 11 = some () from if_pos ok1, Option.bind_some, e2, Option.bind_some, rz_v R2.1, Option.bind_some, thr_e R2, Option.bind_some, if_pos tk]
  unfold b_L_law_1542
  by_cases c : k = 0
  · rw [if_pos c]
    unfold b_L_law_1547
    rw [lj_125 G2.2.1, Option.bind_some, tj c]
    by_cases z : b = 0
    · rw [if_pos z]
      unfold b_L_law_1559 b_L_law_1560
      rw [if_pos (lg0.mpr (show lgb b = 0 from if_pos z))]
      exact e_1569
    · rw [if_neg z]
      unfold b_L_law_1555 b_L_law_1560
      rw [if_pos (lg0.mpr (show lgb b = 1 from if_neg z))]
      exact e_1569
  · rw [if_neg c]
    exact e_1569
theorem lw_33 (G : GC h g m) (R : GR h g) (ha : a + 6 ≤ L) (hL : L ≤ 3072) (hm : m ≤ 600) (HS : ∀ {h g m} {a b : Int32}, GC h g m → GR h g → m ≤ 600 → TSP lgb (f_L_same 64 a b 125) (f_X11_same 102 a b) h m) : LGo r23 a m (b_L_law_33 L xs r23 31 64 102 125 (nI a) h) := by
  unfold b_L_law_33
  rw [show sc_i L xs 31 (nI a) = some (xs (a + 0)) from sx_k (k := 0) ha hL (by omega), Option.bind_some]
  generalize xs (a + 0) &&& (31 : Int32) = x
  by_cases c0 : x = 0
  · rw [if_pos c0]; exact lw_152 G R ha hL
  rw [if_neg c0]
  by_cases c1 : x = 1
  · rw [if_pos c1]; exact lw_225 G R ha hL
  rw [if_neg c1]
  by_cases c2 : x = 2
  · rw [if_pos c2]; exact lw_250 G R ha hL hm
  rw [if_neg c2]
  by_cases c3 : x = 3
  · rw [if_pos c3]; exact lw_306 G R ha hL
  rw [if_neg c3]
  by_cases c4 : x = 4
  · rw [if_pos c4]; exact lw_331 G R ha hL hm
  rw [if_neg c4]
  by_cases c5 : x = 5
  · rw [if_pos c5]; exact lw_394 G R ha hL hm
  rw [if_neg c5]
  by_cases c6 : x = 6
  · rw [if_pos c6]; exact lw_462 G R ha hL hm
  rw [if_neg c6]
  by_cases c7 : x = 7
  · rw [if_pos c7]; exact lw_530 G R ha hL hm
  rw [if_neg c7]
  by_cases c8 : x = 8
  · rw [if_pos c8]; exact lw_610 G R ha hL hm
  rw [if_neg c8]
  by_cases c9 : x = 9
  · rw [if_pos c9]; exact lw_666 G R ha hL
  rw [if_neg c9]
  by_cases c10 : x = 10
  · rw [if_pos c10]; exact lw_691 G R ha hL
  rw [if_neg c10]
  by_cases c11 : x = 11
  · rw [if_pos c11]; exact lw_704 G R ha hL hm
  rw [if_neg c11]
  by_cases c12 : x = 12
  · rw [if_pos c12]; exact lw_772 G R ha hL hm
  rw [if_neg c12]
  by_cases c13 : x = 13
  · rw [if_pos c13]; exact lw_864 G R ha hL hm
  rw [if_neg c13]
  by_cases c14 : x = 14
  · rw [if_pos c14]; exact lw_944 G R ha hL
  rw [if_neg c14]
  by_cases c15 : x = 15
  · rw [if_pos c15]; exact lw_981 G R ha hL hm
  rw [if_neg c15]
  by_cases c16 : x = 16
  · rw [if_pos c16]; exact lw_1049 G R ha hL hm
  rw [if_neg c16]
  by_cases c17 : x = 17
  · rw [if_pos c17]; exact lw_1105 G R ha hL
  rw [if_neg c17]
  by_cases c18 : x = 18
  · rw [if_pos c18]; exact lw_1130 G R ha hL hm
  rw [if_neg c18]
  by_cases c19 : x = 19
  · rw [if_pos c19]; exact lw_1186 G R ha hL hm
  rw [if_neg c19]
  by_cases c20 : x = 20
  · rw [if_pos c20]; exact lw_1266 G R ha hL hm
  rw [if_neg c20]
  by_cases c21 : x = 21
  · rw [if_pos c21]; exact lw_1346 G R ha hL hm
  rw [if_neg c21]
  by_cases c22 : x = 22
  · rw [if_pos c22]; exact lw_1414 G R ha hL hm
  rw [if_neg c22]
  by_cases c23 : x = 23
  · rw [if_pos c23]; exact lw_1494 G R ha hL hm HS
  rw [if_neg c23]
  exact ⟨h, g, e_1569, gc_up G, R⟩
end
section
variable {L : Nat} {xs : Nat → Int32}
theorem lw_loop (hL : L ≤ 3072) (HS : ∀ {h g m} {a b : Int32}, GC h g m → GR h g → m ≤ 600 → TSP lgb (f_L_same 64 a b 125) (f_X11_same 102 a b) h m) : ∀ n fu h g i, i + n = L / 6 → n < fu → GC h g i → GR h g → ∃ hE g', l_L_law_23 L xs fu 31 64 102 125 (nI (6 * i)) h = some (1, hE) ∧ GC hE g' (L / 6) := by
  intro n
  induction n with
  | zero =>
    intro fu h g i hi hf G R
    obtain ⟨fu, rfl⟩ : ∃ f', fu = f' + 1 := ⟨fu - 1, by omega⟩
    refine ⟨h, g, ?_, by rw [← hi]; exact G⟩
    show b_L_law_23 L xs (l_L_law_23 L xs fu) 31 64 102 125 (nI (6 * i)) h = _
    unfold b_L_law_23
    rw [show sc_n L 31 = some (nI L) from if_pos rfl, Option.bind_some, if_pos]
    · exact ok_z_1
    · by_cases c : L < 6
      · have i0 : i = 0 := by omega
        have key : ∀ L, L < 6 → nI L - (6 : Int32) < nI (6 * 0) := by decide
        rw [i0]
        exact key L c
      · have e : nI L - (6 : Int32) = nI (L - 6) := by
          have : nI L = nI (L - 6) + (6 : Int32) := by rw [da, show L - 6 + 6 = L by omega]
          rw [this, Int32.add_sub_cancel]
        rw [e]
        exact nI_lt (by omega) (by omega)
  | succ n ih =>
    intro fu h g i hi hf G R
    obtain ⟨fu, rfl⟩ : ∃ f', fu = f' + 1 := ⟨fu - 1, by omega⟩
    obtain ⟨h2, g', x1, G2, R2⟩ := lw_33 (r23 := l_L_law_23 L xs fu) (xs := xs) (a := 6 * i) G R (by omega) hL (by omega) HS
    obtain ⟨hE, gE, y1, y2⟩ := ih fu h2 g' (i + 1) (by omega) (by omega) G2 R2
    refine ⟨hE, gE, ?_, y2⟩
    show b_L_law_23 L xs (l_L_law_23 L xs fu) 31 64 102 125 (nI (6 * i)) h = _
    unfold b_L_law_23
    have e : nI L - (6 : Int32) = nI (L - 6) := by
      have : nI L = nI (L - 6) + (6 : Int32) := by rw [da, show L - 6 + 6 = L by omega]
      rw [this, Int32.add_sub_cancel]
    rw [show sc_n L 31 = some (nI L) from if_pos rfl, Option.bind_some, e, if_neg (nI_nlt (by omega) (by omega)), x1, show 6 * i + 6 = 6 * (i + 1) by omega]
    exact y1
theorem law_of (HS : ∀ {h g m} {a b : Int32}, GC h g m → GR h g → m ≤ 600 → TSP lgb (f_L_same 64 a b 125) (f_X11_same 102 a b) h m) : LawTrue := by
  intro L xs hL
  obtain ⟨hE, g', x1, G⟩ := lw_loop (xs := xs) hL HS (L / 6) fu_ (den T_220) g0_ 0 (by omega) (by unfold fu_; omega) gc_0 gr_00
  refine ⟨hE, lw0.trans x1, ?_⟩
  obtain ⟨-, -, -, -, ⟨r1, r2⟩, tn, -, HBh⟩ := G
  obtain ⟨K, -, -, -, -, ⟨-, s4⟩, -, -, -, k, k1, k2, k3⟩ := HBh.2.2.1
  obtain ⟨M, -, -, -, o4, -⟩ := HBh.2.2.2.1
  have kb : K ≤ 32768 := by
    rw [k1]
    exact Nat.pow_le_pow_right (n := 2) (j := 15) (by omega) k3
  unfold pot at r1
  unfold pot8 at r2
  exact ⟨by omega, by omega⟩
end
