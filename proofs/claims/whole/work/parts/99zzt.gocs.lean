/-! ===== outcomes, value, stuck, allowed ===== -/
theorem o_spl (b : Int32) : ((∀ h, f_X10_isOrder b h = some (0, h)) ∧ ∀ h, f_X11_noOrder b h = some (1, h)) ∨ ∃ o, o < 3 ∧ b = nI o ∧ (∀ h, f_X10_isOrder (nI o) h = some (1, h)) ∧ ∀ h, f_X11_noOrder (nI o) h = some (0, h) := by
  by_cases c0 : b < 0
  · left
    refine ⟨fun h => ?_, fun h => ?_⟩
    · unfold f_X10_isOrder b_X10_isOrder_0
      rw [if_pos c0]; exact ok_z_0
    · unfold f_X11_noOrder b_X11_noOrder_0
      rw [isin_e, Option.bind_some, if_pos c0, if_pos rfl]; exact ok_z_1
  · by_cases c2 : (2 : Int32) < b
    · left
      refine ⟨fun h => ?_, fun h => ?_⟩
      · unfold f_X10_isOrder b_X10_isOrder_0 b_X10_isOrder_4
        rw [if_neg c0, if_pos c2]; exact ok_z_0
      · unfold f_X11_noOrder b_X11_noOrder_0
        rw [isin_e, Option.bind_some, if_neg c0, if_pos c2, if_pos rfl]; exact ok_z_1
    · right
      obtain ⟨k, k1, rfl⟩ := (i_cs b).resolve_left c0
      have k3 : k < 3 := by
        by_cases z : k < 3
        · exact z
        · exact absurd (show (2 : Int32) < nI k from nI_lt (a := 2) (by omega) (by omega)) c2
      refine ⟨k, k3, rfl, fun h => ?_, fun h => ?_⟩
      · unfold f_X10_isOrder b_X10_isOrder_0 b_X10_isOrder_4
        rw [if_neg c0, if_neg c2]; exact ok_z_1
      · unfold f_X11_noOrder b_X11_noOrder_0
        rw [isin_e, Option.bind_some, if_neg c0, if_neg c2, if_neg n10]; exact ok_z_0
section
variable {h h' H : AH} {g g' : SG} {m p o : Nat} {d : PD} {a b b2 b3 : Int32}
theorem en9 (G : GR H g) (hp : p < 8) (hd : sD g p = some d) (ho : o < 3) (h24 : hp_i H 102 24 = nI p) : ∀ s, EN d o s → ∀ l, l < 5 → av (owN (pO d)) (pS d).length s l ≤ 9 := by
  obtain ⟨RP, RK, PK⟩ := r_dd G hp hd
  obtain ⟨H', M, -, -, -, -, -, x⟩ := x_fills (li := 3 * p + o) (o := o) (s := p) (pr_0 RP PK) G.1 (by omega) (by omega) hp h24 (fun k _ => rfl)
  exact x
/-- both sides have the outcomes -/
theorem oo (G : GC h g m) (R : GR h g) (hm : m ≤ 600) (hp : p < 8) (hd : sD g p = some d) (ho : o < 3) : ∃ r h1 L, f_X10_outcomesOf 64 (hp_r h 66 p) (nI o) h = some (r, h1) ∧ GC h1 g (m + 1) ∧ CLF h h1 ∧ ok_o h1 r 100 ∧ hp_l h1 r = L.length ∧ L.length ≤ 1024 ∧ RowIs (hp_i h1 r) L ∧
    ∀ H2, GR H2 g → hp_i H2 102 24 = nI p → hp_i H2 102 0 = 0 → ∃ H3 M, f_X11_known 102 (nI o) H2 = some (nI (3 * p + o), H3) ∧ GR H3 g ∧ RLF H2 H3 ∧ hp_i H3 102 0 = 0 ∧ LI H3 (3 * p + o) M ∧ L.length = M.length ∧ ∀ i, i < L.length → ∃ v s, (∀ l, l < 5 → v l ≤ 9) ∧ s < 16 ∧ L.getD i 0 = nI (n16 v s) ∧ M.getD i 0 = nI (nd10 v s) := by
  obtain ⟨r, h1, x1, x2, x3, x4, x5, ⟨y1, y2, L, y3, y4, y5, y6, y7⟩, -⟩ := c_oof (gc0_of G) G.2.2.2.1 R.1 hp hd ho (by omega)
  refine ⟨r, h1, L, x1, gc0_to x2 x3 (by omega) (by omega) (by omega), x4, sr_ok y1 y2, y4.symm, y6, y3, fun H2 G2 h24 t0 => ?_⟩
  obtain ⟨H3, M, z1, z2, z3, z4, z5, z6, z7⟩ := r_kn G2 hp hd ho h24 t0
  have hnt : (pS d).length ≤ 4 := (r_dd G2 hp hd).2.2.1.2.2.1.2.2.1
  have e9 := en9 G2 hp hd ho h24
  obtain ⟨w1, w2⟩ := lm_co hnt e9 y5 z6.2.2.1 y7 z7
  refine ⟨H3, M, z1, z2, z3, z5, z6, w1, fun i hi => ?_⟩
  obtain ⟨s, s1, s2, s3⟩ := w2 i hi
  refine ⟨av (owN (pO d)) (pS d).length s, ast s (pS d).length, e9 s s1, ?_, s2, s3⟩
  have := ast_lt s (pS d).length
  have := Nat.pow_le_pow_right (n := 2) (by omega) hnt
  omega
theorem al_r {r n : Nat} (ok : ok_o h r 100) (l : hp_l h r = n) : al_n h r = some (nI n) := by
  have : al_n h r = some (Int32.ofNat (hp_l h r)) := if_pos ⟨ok.1, ok.2.1, by rw [ok.2.2]; omega, by rw [ok.2.2]; omega⟩
  rw [this, l]
  rfl
theorem s_outcomes (G : GC h g m) (R : GR h g) (hm : m ≤ 600) : TSP Int32.toInt64 (f_L_outcomes 64 a b 125) (f_X11_outcomes 102 a b) h m := by
  refine tp_outcomes G R (fun p d hp ha hd C h0 => ?_)
  have GHh := G.2.1
  rcases o_spl b with ⟨e1, e2⟩ | ⟨o, ho, rfl, e1, e2⟩
  · refine ⟨-1, h, g, ?_, gc_up G, clf_rf, fun H2 R2 h24 t0 => ⟨H2, ?_, R2, rlf_rf, t0⟩⟩
    · unfold f_X10_outcomes b_X10_outcomes_0
      rw [ov64 GHh, Option.bind_some, c_pa GHh hp h0, Option.bind_some, e1, Option.bind_some, if_pos rfl]; rfl
    · unfold b_X11_outcomes_10
      rw [e2, Option.bind_some, if_neg n10]; rfl
  · obtain ⟨r, h1, L, x1, x2, x3, x4, x5, x6, x7, x8⟩ := oo G R hm hp hd ho
    refine ⟨nI L.length, h1, g, ?_, x2, x3, fun H2 R2 h24 t0 => ?_⟩
    · unfold f_X10_outcomes b_X10_outcomes_0
      rw [ov64 GHh, Option.bind_some, c_pa GHh hp h0, Option.bind_some, e1, Option.bind_some, if_neg n10]
      unfold b_X10_outcomes_13 b_X10_outcomes_24
      rw [ov64 GHh, Option.bind_some, x1, Option.bind_some, al_r x4 x5, Option.bind_some]
    · obtain ⟨H3, M, z1, z2, z3, z4, z5, z6, z7⟩ := x8 H2 R2 h24 t0
      refine ⟨H3, ?_, z2, z3, z4⟩
      unfold b_X11_outcomes_10
      rw [e2, Option.bind_some, if_pos rfl]
      unfold b_X11_outcomes_21 b_X11_outcomes_31
      rw [rz_r (f := 30) (r := 111) (l := 25) R2.1 (by decide), Option.bind_some, rz_v R2.1, Option.bind_some, z1, Option.bind_some, rz_l (f := 30) (r := 111) (l := 25) z2.1 (by decide) (by omega) (by omega), Option.bind_some, z5.1, z6]
theorem s_stuck (G : GC h g m) (R : GR h g) (hm : m ≤ 600) : TSP Int32.toInt64 (f_L_stuck 64 a b b2 125) (f_X11_stuck 102 a b b2) h m := by
  refine tp_stuck G R (fun p d hp ha hd C h0 => ?_)
  have GHh := G.2.1
  rcases o_spl b with ⟨e1, e2⟩ | ⟨o, ho, rfl, e1, e2⟩
  · refine ⟨-1, h, g, ?_, gc_up G, clf_rf, fun H2 R2 h24 t0 => ⟨H2, ?_, R2, rlf_rf, t0⟩⟩
    · unfold f_X10_stuck b_X10_stuck_0
      rw [ov64 GHh, Option.bind_some, c_pa GHh hp h0, Option.bind_some, e1, Option.bind_some, if_pos rfl]; rfl
    · unfold b_X11_stuck_10
      rw [e2, Option.bind_some, if_neg n10]; rfl
  · obtain ⟨r, h1, L, x1, x2, x3, x4, x5, x6, x7, x8⟩ := oo G R hm hp hd ho
    have cC : f_X10_stuck 64 (nI p) (nI o) b2 h = if b2 < 0 then b_X10_stuck_46 h1 else b_X10_stuck_29 b2 r h1 := by
      unfold f_X10_stuck b_X10_stuck_0
      rw [ov64 GHh, Option.bind_some, c_pa GHh hp h0, Option.bind_some, e1, Option.bind_some, if_neg n10]
      unfold b_X10_stuck_16
      rw [ov64 GHh, Option.bind_some, x1, Option.bind_some]
    have cR : ∀ H2, GR H2 g → hp_i H2 102 24 = nI p → hp_i H2 102 0 = 0 → ∃ H3 M, GR H3 g ∧ RLF H2 H3 ∧ hp_i H3 102 0 = 0 ∧ LI H3 (3 * p + o) M ∧ (∀ i, i < L.length → ∃ v s, (∀ l, l < 5 → v l ≤ 9) ∧ s < 16 ∧ L.getD i 0 = nI (n16 v s) ∧ M.getD i 0 = nI (nd10 v s)) ∧ L.length = M.length ∧ b_X11_stuck_10 102 (nI o) b2 H2 = (f_X11_isIn b2 0 (nI L.length - 1) H3).bind fun q5 => if q5.1 = 0 then b_X11_stuck_62 q5.2 else b_X11_stuck_43 102 b2 (nI (3 * p + o)) q5.2 := fun H2 R2 h24 t0 => by
      obtain ⟨H3, M, z1, z2, z3, z4, z5, z6, z7⟩ := x8 H2 R2 h24 t0
      refine ⟨H3, M, z2, z3, z4, z5, z7, z6, ?_⟩
      unfold b_X11_stuck_10
      rw [e2, Option.bind_some, if_pos rfl]
      unfold b_X11_stuck_19
      rw [rz_v R2.1, Option.bind_some, z1, Option.bind_some, rz_r (f := 30) (r := 111) (l := 25) z2.1 (by decide), Option.bind_some, rz_l (f := 30) (r := 111) (l := 25) z2.1 (by decide) (by omega) (by omega), Option.bind_some, z5.1, z6]
    rcases rd_cs (a := b2) (M := L.length) (by omega) with ⟨i, i1, rfl, e⟩ | ⟨cb, e⟩
    · refine ⟨L.getD i 0 &&& (15 : Int32), h1, g, ?_, x2, x3, fun H2 R2 h24 t0 => ?_⟩
      · rw [cC, if_neg (nI_pos (by omega))]
        unfold b_X10_stuck_29 b_X10_stuck_36 b_X10_stuck_47 f_X3_stuckIn b_X3_stuckIn_0
        rw [al_r x4 x5, Option.bind_some, if_neg (nI_ge i1 (by omega)), l_iN x4 (by omega) (by omega), Option.bind_some, Option.bind_some, x7 i i1]
      · obtain ⟨H3, M, z2, z3, z4, z5, z7, z6, z8⟩ := cR H2 R2 h24 t0
        refine ⟨H3, ?_, z2, z3, z4⟩
        obtain ⟨v, s, v1, v2, v3, v4⟩ := z7 i i1
        have nb : nd10 v s < 1600000 := nd_lt v1 v2
        have hn : n16 v s < 2 ^ 24 := by
          have := v1 0 (by omega); have := v1 1 (by omega); have := v1 2 (by omega); have := v1 3 (by omega); have := v1 4 (by omega)
          unfold n16; omega
        rw [z8, e, Option.bind_some, if_neg n10]
        unfold b_X11_stuck_43 b_X11_stuck_63
        have lr : hp_i H3 110 (2048 * (3 * p + o) + i) = nI (nd10 v s) := (z5.2.1 i (by omega)).trans v4
        rw [rz_r (f := 29) (r := 110) (l := 51200) z2.1 (by decide), Option.bind_some, mu, nI_add, rz_l (f := 29) (r := 110) (l := 51200) z2.1 (by decide) (by omega) (by omega), Option.bind_some, lr, v3, pk_andN (m := 15) (by omega) 4 (by decide)]
        have e16 : rm_i (nI (nd10 v s)) (16 : Int32) = some (nI (nd10 v s % 16)) := by
          show (if (16 : Int32) = 0 then none else some (nI (nd10 v s) - nI (nd10 v s) / 16 * 16)) = _
          rw [if_neg (by decide), show (16 : Int32) = nI 16 from rfl, pk_rem (by omega) (by omega) (by omega)]
        rw [e16, Option.bind_some]
        congr 3
        unfold nd10 n16
        omega
    · refine ⟨-1, h1, g, ?_, x2, x3, fun H2 R2 h24 t0 => ?_⟩
      · rw [cC]
        by_cases c0 : b2 < 0
        · rw [if_pos c0]; rfl
        · rw [if_neg c0]
          obtain ⟨k, k1, k2, rfl⟩ := cb.resolve_left c0
          unfold b_X10_stuck_29
          rw [al_r x4 x5, Option.bind_some, if_pos (nI_le k1 k2)]; rfl
      · obtain ⟨H3, M, z2, z3, z4, z5, z7, z6, z8⟩ := cR H2 R2 h24 t0
        refine ⟨H3, ?_, z2, z3, z4⟩
        rw [z8, e, Option.bind_some, if_pos rfl]; rfl
theorem s_value (G : GC h g m) (R : GR h g) (hm : m ≤ 600) : TSP Int32.toInt64 (f_L_value 64 a b b2 b3 125) (f_X11_value 102 a b b2 b3) h m := by
  refine tp_value G R (fun p d hp ha hd C h0 => ?_)
  have GHh := G.2.1
  rcases o_spl b with ⟨e1, e2⟩ | ⟨o, ho, rfl, e1, e2⟩
  · refine ⟨-1, h, g, ?_, gc_up G, clf_rf, fun H2 R2 h24 t0 => ⟨H2, ?_, R2, rlf_rf, t0⟩⟩
    · unfold f_X10_value b_X10_value_0
      rw [ov64 GHh, Option.bind_some, c_pa GHh hp h0, Option.bind_some, e1, Option.bind_some, if_pos rfl]; rfl
    · unfold b_X11_value_10
      rw [e2, Option.bind_some, if_neg n10]; rfl
  · have c0 : f_X10_value 64 (nI p) (nI o) b2 b3 h = b_X10_value_14 64 (nI o) b2 b3 (hp_r h 66 p) h := by
      unfold f_X10_value b_X10_value_0
      rw [ov64 GHh, Option.bind_some, c_pa GHh hp h0, Option.bind_some, e1, Option.bind_some, if_neg n10]
    have r0 : ∀ H2, b_X11_value_10 102 (nI o) b2 b3 H2 = b_X11_value_17 102 (nI o) b2 b3 H2 := fun H2 => by
      unfold b_X11_value_10
      rw [e2, Option.bind_some, if_pos rfl]
    by_cases cl : b3 < 0 ∨ ¬ b3 < 5
    · refine ⟨-1, h, g, ?_, gc_up G, clf_rf, fun H2 R2 h24 t0 => ⟨H2, ?_, R2, rlf_rf, t0⟩⟩
      · rw [c0]
        unfold b_X10_value_14 b_X10_value_19
        by_cases z : b3 < 0
        · rw [if_pos z]; rfl
        · rw [if_neg z, if_neg (cl.resolve_left z)]; rfl
      · rw [r0]
        unfold b_X11_value_17
        have ev : (if b3 < 0 then (0 : Int32) else if 4 < b3 then 0 else 1) = 0 := by
          by_cases z : b3 < 0
          · rw [if_pos z]
          · rw [if_neg z, if_pos]
            obtain ⟨k, k1, rfl⟩ := (i_cs b3).resolve_left z
            have : ¬ k < 5 := fun y => (cl.resolve_left z) (nI_lt (b := 5) y (by omega))
            exact nI_lt (a := 4) (by omega) (by omega)
        rw [isin_e, Option.bind_some, ev, if_pos rfl]; rfl
    · obtain ⟨l, l1, rfl⟩ := (i_cs b3).resolve_left (fun z => cl (Or.inl z))
      have l5 : l < 5 := by
        by_cases z : l < 5
        · exact z
        · exact absurd (Or.inr (show ¬ nI l < (5 : Int32) from nI_nlt (b := 5) (by omega) (by omega))) cl
      have k0 : ¬ nI l < 0 := nI_pos l1
      obtain ⟨r, h1, L, x1, x2, x3, x4, x5, x6, x7, x8⟩ := oo G R hm hp hd ho
      have cC : f_X10_value 64 (nI p) (nI o) b2 (nI l) h = if b2 < 0 then b_X10_value_59 h1 else b_X10_value_40 b2 (nI l) r h1 := by
        rw [c0]
        unfold b_X10_value_14 b_X10_value_19 b_X10_value_27
        rw [if_neg k0, if_pos (show nI l < (5 : Int32) from nI_lt (b := 5) l5 (by omega)), ov64 GHh, Option.bind_some, x1, Option.bind_some]
      have cR : ∀ H2, GR H2 g → hp_i H2 102 24 = nI p → hp_i H2 102 0 = 0 → ∃ H3 M, GR H3 g ∧ RLF H2 H3 ∧ hp_i H3 102 0 = 0 ∧ LI H3 (3 * p + o) M ∧ (∀ i, i < L.length → ∃ v s, (∀ l, l < 5 → v l ≤ 9) ∧ s < 16 ∧ L.getD i 0 = nI (n16 v s) ∧ M.getD i 0 = nI (nd10 v s)) ∧ L.length = M.length ∧ b_X11_value_10 102 (nI o) b2 (nI l) H2 = (f_X11_isIn b2 0 (nI L.length - 1) H3).bind fun q5 => if q5.1 = 0 then b_X11_value_74 q5.2 else b_X11_value_53 102 b2 (nI l) (nI (3 * p + o)) q5.2 := fun H2 R2 h24 t0 => by
        obtain ⟨H3, M, z1, z2, z3, z4, z5, z6, z7⟩ := x8 H2 R2 h24 t0
        refine ⟨H3, M, z2, z3, z4, z5, z7, z6, ?_⟩
        rw [r0]
        unfold b_X11_value_17
        rw [isin_e, Option.bind_some, if_neg k0, if_neg (show ¬ (4 : Int32) < nI l from nI_nlt (a := 4) (by omega) (by omega)), if_neg n10]
        unfold b_X11_value_29
        rw [rz_v R2.1, Option.bind_some, z1, Option.bind_some, rz_r (f := 30) (r := 111) (l := 25) z2.1 (by decide), Option.bind_some, rz_l (f := 30) (r := 111) (l := 25) z2.1 (by decide) (by omega) (by omega), Option.bind_some, z5.1, z6]
      rcases rd_cs (a := b2) (M := L.length) (by omega) with ⟨i, i1, rfl, e⟩ | ⟨cb, e⟩
      · refine ⟨m_vin (L.getD i 0) l, h1, g, ?_, x2, x3, fun H2 R2 h24 t0 => ?_⟩
        · rw [cC, if_neg (nI_pos (by omega))]
          unfold b_X10_value_40 b_X10_value_47 b_X10_value_60 f_X3_valueIn b_X3_valueIn_0
          rw [al_r x4 x5, Option.bind_some, if_neg (nI_ge i1 (by omega)), l_iN x4 (by omega) (by omega), Option.bind_some, Option.bind_some, x7 i i1]
          rfl
        · obtain ⟨H3, M, z2, z3, z4, z5, z7, z6, z8⟩ := cR H2 R2 h24 t0
          refine ⟨H3, ?_, z2, z3, z4⟩
          obtain ⟨v, s, v1, v2, v3, v4⟩ := z7 i i1
          rw [z8, e, Option.bind_some, if_neg n10]
          unfold b_X11_value_53 b_X11_value_75
          have lr : hp_i H3 110 (2048 * (3 * p + o) + i) = nI (nd10 v s) := (z5.2.1 i (by omega)).trans v4
          rw [rz_r (f := 29) (r := 110) (l := 51200) z2.1 (by decide), Option.bind_some, mu, nI_add, rz_l (f := 29) (r := 110) (l := 51200) z2.1 (by decide) (by omega) (by omega), Option.bind_some, lr, x_vin v1 v2 l5, Option.bind_some, v3, vin_v v2 v1 l5]
      · refine ⟨-1, h1, g, ?_, x2, x3, fun H2 R2 h24 t0 => ?_⟩
        · rw [cC]
          by_cases c0 : b2 < 0
          · rw [if_pos c0]; rfl
          · rw [if_neg c0]
            obtain ⟨k, k1, k2, rfl⟩ := cb.resolve_left c0
            unfold b_X10_value_40
            rw [al_r x4 x5, Option.bind_some, if_pos (nI_le k1 k2)]; rfl
        · obtain ⟨H3, M, z2, z3, z4, z5, z7, z6, z8⟩ := cR H2 R2 h24 t0
          refine ⟨H3, ?_, z2, z3, z4⟩
          rw [z8, e, Option.bind_some, if_pos rfl]; rfl
/-- how many of the first n outcomes meet the wish -/
noncomputable def mtc (w : Nat → Int32) (V : Nat → Nat → Nat) : Nat → Nat
  | 0 => 0
  | n + 1 => mtc w V n + @ite Nat (∀ l, l < 5 → w l = -1 ∨ w l = nI (V n l)) (Classical.propDecidable _) 1 0
theorem c_alw {r : Nat} {L : List Int32} {V S : Nat → Nat → Nat} {w : Nat → Int32} (o64 : ok_o h 64 10) (r2 : hp_r h 64 2 = 67) (o67 : ok_o h 67 100) (l67 : hp_l h 67 = 5) (hw : ∀ k, k < 5 → hp_i h 67 k = w k) (ok : ok_o h r 100) (hl : hp_l h r = L.length) (h4 : L.length ≤ 1024) (R : RowIs (hp_i h r) L)
    (hV : ∀ i, i < L.length → (∀ l, l < 5 → V i l ≤ 9) ∧ S i 0 < 16 ∧ L.getD i 0 = nI (n16 (V i) (S i 0))) : ∀ j f, j ≤ L.length → j < f → l_X10_allowed_29 f 64 r (nI (mtc w V (L.length - j))) (nI (L.length - j)) h = some (nI (mtc w V L.length), h) := by
  intro j
  induction j with
  | zero =>
    intro f _ hf
    obtain ⟨f, rfl⟩ : ∃ f', f = f' + 1 := ⟨f - 1, by omega⟩
    show b_X10_allowed_29 (l_X10_allowed_29 f) 64 r (nI (mtc w V L.length)) (nI L.length) h = _
    unfold b_X10_allowed_29
    rw [al_r ok hl, Option.bind_some, if_pos (nI_le (Nat.le_refl _) (by omega))]
    rfl
  | succ j ih =>
    intro f hj hf
    obtain ⟨f, rfl⟩ : ∃ f', f = f' + 1 := ⟨f - 1, by omega⟩
    have ej : L.length - (j + 1) + 1 = L.length - j := by omega
    generalize hi : L.length - (j + 1) = i at *
    obtain ⟨v1, v2, v3⟩ := hV i (by omega)
    show b_X10_allowed_29 (l_X10_allowed_29 f) 64 r (nI (mtc w V i)) (nI i) h = _
    unfold b_X10_allowed_29 b_X10_allowed_37
    rw [al_r ok hl, Option.bind_some, if_neg (nI_ge (by omega) (by omega)), l_iN ok (by omega) (by omega), Option.bind_some, show g_r h 64 10 2 = some 67 from (if_pos o64).trans (by rw [r2]), Option.bind_some, R i (by omega), v3]
    have me := e_me (h := h) (r := 67) (w := w) (o := nI (n16 (V i) (S i 0))) o67 l67 hw 5 (Nat.le_refl _) fu_ (by decide)
    rw [Nat.sub_self] at me
    have mt := me_mt (w := w) (o := nI (n16 (V i) (S i 0))) (v := V i) (fun l hl => vin_v v2 v1 hl) 5 (Nat.le_refl _)
    rw [Nat.sub_self] at mt
    have e1 : f_X3_meets (nI (n16 (V i) (S i 0))) 67 h = some ((if m_me (nI (n16 (V i) (S i 0))) w 5 0 = true then 1 else 0), h) := me
    have hs : mtc w V (i + 1) = mtc w V i + @ite Nat (∀ l, l < 5 → w l = -1 ∨ w l = nI (V i l)) (Classical.propDecidable _) 1 0 := rfl
    have ih' := ih f (by omega) (by omega)
    rw [← ej] at ih'
    rw [e1, Option.bind_some]
    by_cases c : m_me (nI (n16 (V i) (S i 0))) w 5 0 = true
    · have c' : ∀ l, l < 5 → w l = -1 ∨ w l = nI (V i l) := fun l hl => mt.mp c l (by omega) hl
      rw [if_pos c, if_neg n10]
      unfold b_X10_allowed_52 b_X10_allowed_55
      rw [hs, if_pos c'] at ih'
      rw [da, da]
      exact ih'
    · have c' : ¬ ∀ l, l < 5 → w l = -1 ∨ w l = nI (V i l) := fun z => c (mt.mpr (fun l _ hl => z l hl))
      rw [if_neg c, if_pos rfl]
      unfold b_X10_allowed_55
      rw [hs, if_neg c'] at ih'
      rw [da]
      exact ih'
theorem r_alw {li : Nat} {M : List Int32} {V S : Nat → Nat → Nat} {w : Nat → Int32} (Z : RZ h) (hli : li < 25) (hw : ∀ k, k < 5 → hp_i h 112 k = w k) (L : LI h li M) (hV : ∀ i, i < M.length → (∀ l, l < 5 → V i l ≤ 9) ∧ S i 0 < 16 ∧ M.getD i 0 = nI (nd10 (V i) (S i 0))) : ∀ j f, j ≤ M.length → j < f → l_X11_allowed_31 f 102 (nI li) (nI (mtc w V (M.length - j))) (nI (M.length - j)) h = some (nI (mtc w V M.length), h) := by
  obtain ⟨l1, l2, l3, l4⟩ := L
  intro j
  induction j with
  | zero =>
    intro f _ hf
    obtain ⟨f, rfl⟩ : ∃ f', f = f' + 1 := ⟨f - 1, by omega⟩
    show b_X11_allowed_31 (l_X11_allowed_31 f) 102 (nI li) (nI (mtc w V M.length)) (nI M.length) h = _
    unfold b_X11_allowed_31
    rw [rz_r (f := 30) (r := 111) (l := 25) Z (by decide), Option.bind_some, rz_l (f := 30) (r := 111) (l := 25) Z (by decide) hli (by omega), Option.bind_some, l1, if_pos (nI_le (Nat.le_refl _) (by omega))]
    rfl
  | succ j ih =>
    intro f hj hf
    obtain ⟨f, rfl⟩ : ∃ f', f = f' + 1 := ⟨f - 1, by omega⟩
    have ej : M.length - (j + 1) + 1 = M.length - j := by omega
    generalize hi : M.length - (j + 1) = i at *
    obtain ⟨v1, v2, v3⟩ := hV i (by omega)
    show b_X11_allowed_31 (l_X11_allowed_31 f) 102 (nI li) (nI (mtc w V i)) (nI i) h = _
    unfold b_X11_allowed_31 b_X11_allowed_42
    have lr : hp_i h 110 (2048 * li + i) = nI (nd10 (V i) (S i 0)) := (l2 i (by omega)).trans v3
    rw [rz_r (f := 30) (r := 111) (l := 25) Z (by decide), Option.bind_some, rz_l (f := 30) (r := 111) (l := 25) Z (by decide) hli (by omega), Option.bind_some, l1, if_neg (nI_ge (by omega) (by omega)), rz_r (f := 29) (r := 110) (l := 51200) Z (by decide), Option.bind_some, mu, nI_add, rz_l (f := 29) (r := 110) (l := 51200) Z (by decide) (by omega) (by omega), Option.bind_some, lr, rz_v Z, Option.bind_some]
    obtain ⟨q, q1, q2, q3⟩ := x_meet (v := V i) Z v1 v2
    have hs : mtc w V (i + 1) = mtc w V i + @ite Nat (∀ l, l < 5 → w l = -1 ∨ w l = nI (V i l)) (Classical.propDecidable _) 1 0 := rfl
    have ih' := ih f (by omega) (by omega)
    rw [← ej] at ih'
    have cw : (∀ l, l < 5 → hp_i h 112 l = -1 ∨ hp_i h 112 l = nI (V i l)) ↔ ∀ l, l < 5 → w l = -1 ∨ w l = nI (V i l) := ⟨fun z l hl => by rw [← hw l hl]; exact z l hl, fun z l hl => by rw [hw l hl]; exact z l hl⟩
    rw [q1, Option.bind_some]
    rcases q2 with z | z
    · have c' : ¬ ∀ l, l < 5 → w l = -1 ∨ w l = nI (V i l) := fun y => by
        have := q3.mpr (cw.mpr y)
        rw [z] at this
        exact absurd this (by decide)
      rw [if_pos z]
      unfold b_X11_allowed_68 b_X11_allowed_69
      rw [hs, if_neg c'] at ih'
      rw [da, da]
      exact ih'
    · have c' : ∀ l, l < 5 → w l = -1 ∨ w l = nI (V i l) := cw.mp (q3.mp z)
      rw [z, if_neg n10]
      unfold b_X11_allowed_64 b_X11_allowed_69
      rw [hs, if_pos c'] at ih'
      rw [da, da]
      exact ih'
theorem s_allowed (G : GC h g m) (R : GR h g) (hm : m ≤ 600) : TSP Int32.toInt64 (f_L_allowed 64 a b 125) (f_X11_allowed 102 a b) h m := by
  refine tp_allowed G R (fun p d hp ha hd C h0 => ?_)
  have GHh := G.2.1
  rcases o_spl b with ⟨e1, e2⟩ | ⟨o, ho, rfl, e1, e2⟩
  · refine ⟨-1, h, g, ?_, gc_up G, clf_rf, fun H2 R2 h24 t0 => ⟨H2, ?_, R2, rlf_rf, t0⟩⟩
    · unfold f_X10_allowed b_X10_allowed_0
      rw [ov64 GHh, Option.bind_some, c_pa GHh hp h0, Option.bind_some, e1, Option.bind_some, if_pos rfl]; rfl
    · unfold b_X11_allowed_10
      rw [e2, Option.bind_some, if_neg n10]; rfl
  · obtain ⟨r, h1, L, x1, x2, x3, x4, x5, x6, x7, x8⟩ := oo G R hm hp hd ho
    obtain ⟨H9, y1, y2, y3, y4, y5⟩ := r_fl0 R hp hd
    obtain ⟨H8, M8, -, -, -, -, -, -, w7⟩ := x8 H9 y2 y5 y4
    have ch : ∀ i, ∃ v : Nat → Nat, ∃ s, i < L.length → (∀ l, l < 5 → v l ≤ 9) ∧ s < 16 ∧ L.getD i 0 = nI (n16 v s) := fun i => by
      by_cases c : i < L.length
      · obtain ⟨v, s, v1, v2, v3, -⟩ := w7 i c
        exact ⟨v, s, fun _ => ⟨v1, v2, v3⟩⟩
      · exact ⟨fun _ => 0, 0, fun z => absurd z c⟩
    let V : Nat → Nat → Nat := fun i => (ch i).choose
    let S : Nat → Nat → Nat := fun i _ => (ch i).choose_spec.choose
    have hV : ∀ i, i < L.length → (∀ l, l < 5 → V i l ≤ 9) ∧ S i 0 < 16 ∧ L.getD i 0 = nI (n16 (V i) (S i 0)) := fun i hi => (ch i).choose_spec.choose_spec hi
    have G1 := x2.2.1
    have W1 := x2.2.2.1.2.2.2.1
    have c1 := c_alw (V := V) (S := S) (w := swi g) G1.1.1 G1.1.2.2.2.1 G1.2.2.2.1.1 G1.2.2.2.1.2 W1 x4 x5 x6 x7 hV L.length fu_ (Nat.le_refl _) (by unfold fu_; omega)
    rw [Nat.sub_self] at c1
    refine ⟨nI (mtc (swi g) V L.length), h1, g, ?_, x2, x3, fun H2 R2 h24 t0 => ?_⟩
    · unfold f_X10_allowed b_X10_allowed_0
      rw [ov64 GHh, Option.bind_some, c_pa GHh hp h0, Option.bind_some, e1, Option.bind_some, if_neg n10]
      unfold b_X10_allowed_15
      rw [ov64 GHh, Option.bind_some, x1, Option.bind_some]
      exact c1
    · obtain ⟨H3, M, z1, z2, z3, z4, z5, z6, z7⟩ := x8 H2 R2 h24 t0
      refine ⟨H3, ?_, z2, z3, z4⟩
      have hVM : ∀ i, i < M.length → (∀ l, l < 5 → V i l ≤ 9) ∧ S i 0 < 16 ∧ M.getD i 0 = nI (nd10 (V i) (S i 0)) := fun i hi => by
        obtain ⟨v, s, v1, v2, v3, v4⟩ := z7 i (by omega)
        obtain ⟨u1, u2, u3⟩ := hV i (by omega)
        refine ⟨u1, u2, ?_⟩
        have b1 : n16 v s < 2 ^ 24 := by
          have := v1 0 (by omega); have := v1 1 (by omega); have := v1 2 (by omega); have := v1 3 (by omega); have := v1 4 (by omega)
          unfold n16; omega
        have b2 : n16 (V i) (S i 0) < 2 ^ 24 := by
          have := u1 0 (by omega); have := u1 1 (by omega); have := u1 2 (by omega); have := u1 3 (by omega); have := u1 4 (by omega)
          unfold n16; omega
        have e : n16 v s = n16 (V i) (S i 0) := (nI_eq (by omega) (by omega)).mp (v3.symm.trans u3)
        rw [v4, (n16_dec v1 u1 v2 u2).2.mp e]
      have r1 := r_alw (V := V) (S := S) (w := swi g) z2.1 (by omega) z2.2.1.2.2.2.1 z5 hVM M.length fu_ (Nat.le_refl _) (by unfold fu_; have := z5.2.2.2; omega)
      rw [Nat.sub_self] at r1
      unfold b_X11_allowed_10
      rw [e2, Option.bind_some, if_pos rfl]
      unfold b_X11_allowed_19
      rw [rz_v R2.1, Option.bind_some, z1, Option.bind_some, z6]
      exact r1
end
