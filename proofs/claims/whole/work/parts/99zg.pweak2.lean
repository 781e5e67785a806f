/-! ===== the rest of a statement once a fault is found ===== -/
def FT (Z : Nat → Nat → Int32) (tp : Nat → Nat) (n K p : Nat) (A : Nat → Nat → Int32) : Prop := 0 < K ∧ ∃ j b, WB Z tp n K p A j b
theorem bqq_l {K p q k : Nat} {P : Prop} [Decidable P] (h : p < q) : (if P then bqq K p q k else K) = K := by
  unfold bqq
  rw [if_neg (show ¬ p = q by omega), ite_self]
theorem bqq_r {K p q k : Nat} {P : Prop} [Decidable P] (h : p < q) : (if P then K else bqq K p q k) = K := by
  unfold bqq
  rw [if_neg (show ¬ p = q by omega), ite_self]
theorem kf_p {x k : Nat} {v : Int32} {H : AH} (e : x = k) (hv : v = nI k) : (nI x, H).1 = v := by rw [hv, e]
theorem kf_n {x k : Nat} {v : Int32} {H : AH} (e : ¬ x = k) (hv : v = nI k) (hx : x < 2 ^ 31) (hk : k < 2 ^ 31) : ¬ (nI x, H).1 = v := fun y => e ((nI_eq hx hk).mp (y.trans hv))
theorem bqq_e {K p k : Nat} : bqq K p p k = bd K k := if_pos rfl
section
variable {Z : Nat → Nat → Int32} {tp : Nat → Nat} {n : Nat} {h : AH} {A A' : Nat → Nat → Int32} {j K p q b : Nat}
theorem w_badl {k : Nat} (R : RZ h) (W : WB Z tp n K p A j b) (hK : 0 < K) (hp : p < q) (hq : q ≤ 1000) (h0 : 0 < k) (h8 : k < 8) : ∃ A', f_X11_bad 102 (nI k) (nI q) (sA h A) = some (sA h A') ∧ WB Z tp n K p A' j b := by
  obtain ⟨A', x1, x2, -⟩ := w_bg (k := k) R W (Or.inr ⟨hp, hK⟩) hq h0 h8
  refine ⟨A', x1, ?_⟩
  unfold bqq at x2
  rw [if_neg (by omega)] at x2
  exact x2
theorem w_enn {a0 a1 a2 a3 a4 : Int32} {c : Nat} (R : RZ h) (W : WB Z tp n K p A j b) (hb : b ≤ 160) (hK : 0 < K) (hp : p < (tk tp n (j + 1)).2.1) : ∃ v1 A1 A2 v3 A3, f_X11_emit 102 a0 a1 a2 a3 a4 (sA h A) = some (v1, sA h A1) ∧ f_X11_next 102 (sA h A1) = some (sA h A2) ∧ f_X11_need 102 (nI c) (sA h A2) = some (v3, sA h A3) ∧ (v3 = 0 ∨ v3 = 1) ∧ FT Z tp n K p A3 := by
  obtain ⟨v1, A1, x1, x2, -⟩ := w_emit (a0 := a0) (a1 := a1) (a2 := a2) (a3 := a3) (a4 := a4) R W hb
  obtain ⟨A2, y1, y2, -⟩ := w_next R x2
  obtain ⟨v3, A3, j3, z1, z2, z3, z4⟩ := w_need (c := c) R y2 hK hp
  exact ⟨v1, A1, A2, v3, A3, x1, y1, z1, z2, hK, j3, _, z3⟩
theorem w_expr (R : RZ h) (W : WB Z tp n K p A j b) (hK : 0 < K) (hp : p < (tk tp n j).2.1) : ∃ v A' j', f_X11_expression 102 (sA h A) = some (v, sA h A') ∧ (v = 0 ∨ v = 1) ∧ WB Z tp n K p A' j' b ∧ p < (tk tp n j').2.1 := by
  have hn := W.1.2.1
  have P := fun j => tk_pl (tp := tp) (n := n) (j := j) hn
  have w23 : ∀ (A : Nat → Nat → Int32) j v k, WB Z tp n K p A j b → k = 21 ∨ k = 23 → WB Z tp n K p (up_2 A 102 k v) j b := fun A j v k W hk => wb_cg W (fun r q k1 k2 k3 => u2 (by omega))
  have fin : ∀ (A : Nat → Nat → Int32) j, WB Z tp n K p A j b → p < (tk tp n j).2.1 → ∃ A' j', (ok_v (sA h A) 102 11).bind (fun _ => (f_X11_which 102 (sA h A)).bind fun q2 => (p_i q2.2 102 11 23 q2.1).bind fun h3 => (ok_v h3 102 11).bind fun _ => (f_X11_next 102 h3).bind fun h5 => ok_z 1 h5) = some (1, sA h A') ∧ WB Z tp n K p A' j' b ∧ p < (tk tp n j').2.1 := fun A j W hp => by
    rw [v_v R, Option.bind_some, w_which R W.1, Option.bind_some, v_p R, Option.bind_some, v_v R, Option.bind_some]
    obtain ⟨A', x1, x2, -⟩ := w_next R (w23 A j (nI ((tk tp n j).1 % 100)) 23 W (by omega))
    rw [x1, Option.bind_some]
    exact ⟨A', j + 1, ok_z_1, x2, by have := (P j).2.1; omega⟩
  have no : ∀ (A : Nat → Nat → Int32) j, WB Z tp n K p A j b → p < (tk tp n j).2.1 → ∃ A', (g_i (sA h A) 102 11 7).bind (fun x1 => (ok_v (sA h A) 102 11).bind fun _ => (f_X11_bad 102 1 x1 (sA h A)).bind fun h3 => ok_z 0 h3) = some (0, sA h A') ∧ WB Z tp n K p A' j b := fun A j W hp => by
    obtain ⟨A', x1, x2⟩ := w_badl (k := 1) R W hK hp (by have := (P j).1; omega) (by omega) (by omega)
    rw [v_g R, Option.bind_some, v_v R, Option.bind_some, W.1.1.2.2.2, show f_X11_bad 102 (1 : Int32) (nI (tk tp n j).2.1) (sA h A) = _ from x1, Option.bind_some]
    exact ⟨A', ok_z_0, x2⟩
  unfold f_X11_expression b_X11_expression_0
  have W1 := w23 _ j 0 23 (w23 A j 0 21 W (by omega)) (by omega)
  rw [v_p R, Option.bind_some, v_p R, Option.bind_some, v_v R, Option.bind_some, w_kind R W1.1, Option.bind_some]
  split
  · obtain ⟨A', j', x1, x2, x3⟩ := fin _ j W1 hp
    exact ⟨1, A', j', x1, Or.inr rfl, x2, x3⟩
  · unfold b_X11_expression_33
    rw [v_v R, Option.bind_some, w_kind R W1.1, Option.bind_some]
    by_cases c4 : (tk tp n j).1 / 100 = 4
    · rw [if_pos (kf_p (v := 4) c4 rfl)]
      have l5 := (cd_3 (tk_code (tp := tp) (n := n) (j := j))).2.1 c4
      unfold b_X11_expression_52
      have W2 := w23 _ j 1 21 W1 (by omega)
      rw [v_p R, Option.bind_some, v_v R, Option.bind_some, w_which R W2.1, Option.bind_some, v_p R, Option.bind_some, v_g R, Option.bind_some, v_g R, Option.bind_some, v_v R, Option.bind_some, u2s, u2 (by omega)]
      have W3 := wb_22 (l := (tk tp n j).1 % 100) W2 l5
      obtain ⟨A3, y1, y2, -⟩ := w_loc (l := (tk tp n j).1 % 100) (q := (tk tp n j).2.1) R W3 (Or.inr ⟨hp, hK⟩) (by have := (P j).1; omega) l5
      rw [bqq_r hp] at y2
      rw [show up_2 (up_2 (up_2 A 102 21 0) 102 23 0) 102 21 1 102 7 = nI (tk tp n j).2.1 from W2.1.1.2.2.2, y1, Option.bind_some, v_v R, Option.bind_some]
      obtain ⟨A4, z1, z2, -⟩ := w_next R y2
      have p1 : p < (tk tp n (j + 1)).2.1 := by have := (P j).2.1; omega
      rw [z1, Option.bind_some, v_g R, Option.bind_some]
      split
      · unfold b_X11_expression_93
        obtain ⟨A5, u1, u2', -⟩ := w_next R z2
        have p2 : p < (tk tp n (j + 1 + 1)).2.1 := by have := (P (j + 1)).2.1; omega
        rw [v_v R, Option.bind_some, u1, Option.bind_some, v_v R, Option.bind_some, w_kind R u2'.1, Option.bind_some]
        split
        · obtain ⟨A', j', x1, x2, x3⟩ := fin A5 _ u2' p2
          exact ⟨1, A', j', x1, Or.inr rfl, x2, x3⟩
        · obtain ⟨A', x1, x2⟩ := no A5 _ u2' p2
          exact ⟨0, A', _, x1, Or.inl rfl, x2, p2⟩
      · exact ⟨1, A4, _, ok_z_1, Or.inr rfl, z2, p1⟩
    · have C := cd_3 (tk_code (tp := tp) (n := n) (j := j))
      rw [if_neg (kf_n (v := 4) c4 rfl (by omega) (by omega))]
      obtain ⟨A', x1, x2⟩ := no _ j W1 hp
      exact ⟨0, A', j, x1, Or.inl rfl, x2, hp⟩
/-- READ of a statement -/
theorem w_g35 {a2 : Int32} (R : RZ h) (W : WB Z tp n K p A j b) (hb : b ≤ 160) (hK : 0 < K) (hp : p < (tk tp n j).2.1) (c3 : (tk tp n j).1 / 100 = 3) : ∃ v A', b_X11_gives_35 102 a2 (sA h A) = some (v, sA h A') ∧ (v = 0 ∨ v = 1) ∧ FT Z tp n K p A' := by
  have hn := W.1.2.1
  have P := tk_pl (tp := tp) (n := n) (j := j) hn
  have l6 := (cd_3 (tk_code (tp := tp) (n := n) (j := j))).1 c3
  unfold b_X11_gives_35
  rw [v_g R, Option.bind_some, v_v R, Option.bind_some, w_which R W.1, Option.bind_some, v_v R, Option.bind_some, W.1.1.2.2.2]
  obtain ⟨v1, A1, x1, x2, -⟩ := w_act (q := (tk tp n j).2.1) (a1 := 0) (a2 := nI ((tk tp n j).1 % 100)) (a3 := a2) R W (Or.inr ⟨hp, hK⟩) (by omega)
  rw [bqq_l hp] at x2
  obtain ⟨A2, y1, y2, -⟩ := w_cell (q := (tk tp n j).2.1) (c := (tk tp n j).1 % 100) R x2 (Or.inr ⟨hp, hK⟩) (by omega) l6
  rw [bqq_l hp] at y2
  rw [x1, Option.bind_some, v_v R, Option.bind_some, w_which R x2.1, Option.bind_some, v_g R, Option.bind_some, v_v R, Option.bind_some, x2.1.1.2.2.2, y1, Option.bind_some, v_v R, Option.bind_some, w_which R y2.1, Option.bind_some, v_v R, Option.bind_some]
  obtain ⟨v3, A3, A4, v5, A5, z1, z2, z3, z4, z5⟩ := w_enn (a0 := 0) (a1 := v1) (a2 := nI ((tk tp n j).1 % 100)) (a3 := a2) (a4 := 0) (c := 700) R y2 hb hK (by omega)
  rw [z1, Option.bind_some, v_v R, Option.bind_some, z2, Option.bind_some, v_v R, Option.bind_some, show f_X11_need 102 (700 : Int32) (sA h A4) = _ from z3, Option.bind_some]
  exact ⟨v5, A5, ok_zv z4, z4, z5⟩
theorem w_t94 {a2 a3 a4 : Int32} (R : RZ h) (W : WB Z tp n K p A j b) (hb : b ≤ 160) (hK : 0 < K) (hp : p < (tk tp n (j + 1)).2.1) : ∃ v A', b_X11_through_94 102 a2 a3 a4 (sA h A) = some (v, sA h A') ∧ (v = 0 ∨ v = 1) ∧ FT Z tp n K p A' := by
  unfold b_X11_through_94
  rw [v_v R, Option.bind_some, w_which R W.1, Option.bind_some, v_v R, Option.bind_some]
  obtain ⟨v3, A3, A4, v5, A5, z1, z2, z3, z4, z5⟩ := w_enn (a0 := 2) (a1 := a4) (a2 := nI ((tk tp n j).1 % 100)) (a3 := a2) (a4 := a3) (c := 700) R W hb hK hp
  rw [z1, Option.bind_some, v_v R, Option.bind_some, z2, Option.bind_some, v_v R, Option.bind_some, show f_X11_need 102 (700 : Int32) (sA h A4) = _ from z3, Option.bind_some]
  exact ⟨v5, A5, ok_zv z4, z4, z5⟩
theorem w_thr {a1 a2 a3 : Int32} (R : RZ h) (W : WB Z tp n K p A j b) (hb : b ≤ 160) (hK : 0 < K) (hp : p < (tk tp n j).2.1) : ∃ v A', f_X11_through 102 a1 a2 a3 (sA h A) = some (v, sA h A') ∧ (v = 0 ∨ v = 1) ∧ FT Z tp n K p A' := by
  have hn := W.1.2.1
  have P := fun j => tk_pl (tp := tp) (n := n) (j := j) hn
  have no : ∀ (A : Nat → Nat → Int32) j, WB Z tp n K p A j b → p < (tk tp n j).2.1 → ∃ A', (g_i (sA h A) 102 11 7).bind (fun x1 => (ok_v (sA h A) 102 11).bind fun _ => (f_X11_bad 102 1 x1 (sA h A)).bind fun h3 => ok_z 0 h3) = some (0, sA h A') ∧ WB Z tp n K p A' j b := fun A j W hp => by
    obtain ⟨A', x1, x2⟩ := w_badl (k := 1) R W hK hp (by have := (P j).1; omega) (by omega) (by omega)
    rw [v_g R, Option.bind_some, v_v R, Option.bind_some, W.1.1.2.2.2, show f_X11_bad 102 (1 : Int32) (nI (tk tp n j).2.1) (sA h A) = _ from x1, Option.bind_some]
    exact ⟨A', ok_z_0, x2⟩
  obtain ⟨v0, l1, l2⟩ := w_last R W
  unfold f_X11_through b_X11_through_0
  rw [v_v R, Option.bind_some, l1, Option.bind_some]
  split
  · unfold b_X11_through_18
    obtain ⟨A1, x1, x2, -⟩ := w_next R W
    have p1 : p < (tk tp n (j + 1)).2.1 := by have := (P j).2.1; omega
    rw [v_v R, Option.bind_some, x1, Option.bind_some, v_v R, Option.bind_some, w_kind R x2.1, Option.bind_some]
    by_cases c3 : (tk tp n (j + 1)).1 / 100 = 3
    · have l6 := (cd_3 (tk_code (tp := tp) (n := n) (j := j + 1))).1 c3
      rw [if_pos (kf_p (v := 3) c3 rfl)]
      unfold b_X11_through_41
      have q1 : (tk tp n (j + 1)).2.1 ≤ 1000 := by have := (P (j + 1)).1; omega
      rw [v_g R, Option.bind_some, v_v R, Option.bind_some, w_which R x2.1, Option.bind_some, v_v R, Option.bind_some, x2.1.1.2.2.2]
      obtain ⟨v2, A2, y1, y2, -⟩ := w_act (q := (tk tp n (j + 1)).2.1) (a1 := 2) (a2 := nI ((tk tp n (j + 1)).1 % 100)) (a3 := a2) R x2 (Or.inr ⟨p1, hK⟩) q1
      rw [bqq_l p1] at y2
      obtain ⟨A3, z1, z2, -⟩ := w_cell (q := (tk tp n (j + 1)).2.1) (c := (tk tp n (j + 1)).1 % 100) R y2 (Or.inr ⟨p1, hK⟩) q1 l6
      rw [bqq_l p1] at z2
      rw [y1, Option.bind_some, v_v R, Option.bind_some, w_which R y2.1, Option.bind_some, v_g R, Option.bind_some, v_v R, Option.bind_some, y2.1.1.2.2.2, z1, Option.bind_some, v_r7 R, Option.bind_some, v_v R, Option.bind_some, w_which R z2.1, Option.bind_some, ad, Nat.zero_add, v_l7 R (by omega), Option.bind_some]
      have p2 : p < (tk tp n (j + 1 + 1)).2.1 := by have := (P (j + 1)).2.1; omega
      split
      · exact w_t94 R z2 hb hK p2
      · unfold b_X11_through_84
        obtain ⟨A4, u1, u2'⟩ := w_badl (k := 6) R z2 hK p1 q1 (by omega) (by omega)
        rw [v_g R, Option.bind_some, v_v R, Option.bind_some, z2.1.1.2.2.2, show f_X11_bad 102 (6 : Int32) (nI (tk tp n (j + 1)).2.1) (sA h A3) = _ from u1, Option.bind_some]
        exact w_t94 R u2' hb hK p2
    · have C := cd_3 (tk_code (tp := tp) (n := n) (j := j + 1))
      rw [if_neg (kf_n (v := 3) c3 rfl (by omega) (by omega))]
      obtain ⟨A', x1, x2⟩ := no A1 _ x2 p1
      exact ⟨0, A', x1, Or.inl rfl, hK, _, _, x2⟩
  · obtain ⟨A', x1, x2⟩ := no A j W hp
    exact ⟨0, A', x1, Or.inl rfl, hK, _, _, x2⟩
/-- behind the expression -/
theorem w_g119 {a1 a2 a3 : Int32} (R : RZ h) (W : WB Z tp n K p A j b) (hb : b ≤ 160) (hK : 0 < K) (hp : p < (tk tp n j).2.1) : ∃ v A', b_X11_gives_119 102 a1 a2 a3 (sA h A) = some (v, sA h A') ∧ (v = 0 ∨ v = 1) ∧ FT Z tp n K p A' := by
  have b134 : ∃ v A', b_X11_gives_134 102 a2 (sA h A) = some (v, sA h A') ∧ (v = 0 ∨ v = 1) ∧ FT Z tp n K p A' := by
    unfold b_X11_gives_134
    obtain ⟨v1, A1, j1, x1, x2, x3, x4⟩ := w_need (c := 700) R W hK hp
    rw [v_v R, Option.bind_some, show f_X11_need 102 (700 : Int32) (sA h A) = _ from x1, Option.bind_some]
    split
    · exact ⟨0, A1, ok_z_0, Or.inl rfl, hK, _, _, x3⟩
    · unfold b_X11_gives_146
      obtain ⟨v2, A2, y1, y2, -⟩ := w_emit (a0 := 6) (a1 := a2) (a2 := A1 102 21) (a3 := A1 102 22) (a4 := A1 102 23) R x3 hb
      rw [v_g R, Option.bind_some, v_g R, Option.bind_some, v_g R, Option.bind_some, v_v R, Option.bind_some, y1, Option.bind_some]
      exact ⟨1, A2, ok_z_1, Or.inr rfl, hK, _, _, y2⟩
  unfold b_X11_gives_119
  rw [v_g R, Option.bind_some]
  split
  · unfold b_X11_gives_129
    split
    · exact b134
    · unfold b_X11_gives_168
      obtain ⟨v, A', x1, x2, x3⟩ := w_thr (a1 := a1) (a2 := a2) (a3 := a3) R W hb hK hp
      rw [v_v R, Option.bind_some, x1, Option.bind_some]
      exact ⟨v, A', ok_zv x2, x2, x3⟩
  · exact b134
theorem w_g27 {a1 a2 : Int32} (R : RZ h) (W : WB Z tp n K p A j b) (hb : b ≤ 160) (hK : 0 < K) (hp : p < (tk tp n j).2.1) : ∃ v A', b_X11_gives_27 102 a1 a2 (sA h A) = some (v, sA h A') ∧ (v = 0 ∨ v = 1) ∧ FT Z tp n K p A' := by
  have b103 : ∀ s0, ∃ v A', b_X11_gives_103 102 a1 a2 s0 (sA h A) = some (v, sA h A') ∧ (v = 0 ∨ v = 1) ∧ FT Z tp n K p A' := fun s0 => by
    unfold b_X11_gives_103
    obtain ⟨v1, A1, j1, x1, x2, x3, x4⟩ := w_expr R W hK hp
    rw [v_g R, Option.bind_some, v_v R, Option.bind_some, x1, Option.bind_some]
    split
    · exact ⟨0, A1, ok_z_0, Or.inl rfl, hK, _, _, x3⟩
    · exact w_g119 R x3 hb hK x4
  unfold b_X11_gives_27
  rw [v_v R, Option.bind_some, w_kind R W.1, Option.bind_some]
  by_cases c3 : (tk tp n j).1 / 100 = 3
  · rw [if_pos (kf_p (v := 3) c3 rfl)]
    exact w_g35 R W hb hK hp c3
  · have C := cd_3 (tk_code (tp := tp) (n := n) (j := j))
    rw [if_neg (kf_n (v := 3) c3 rfl (by omega) (by omega))]
    unfold b_X11_gives_87
    rw [v_v R, Option.bind_some, w_kind R W.1, Option.bind_some]
    split
    · unfold b_X11_gives_95
      rw [v_v R, Option.bind_some, w_which R W.1, Option.bind_some]
      exact b103 _
    · exact b103 _
/-- a LOCAL's statement, with a fault at its place -/
theorem w_gives {l : Nat} (R : RZ h) (W : WB Z tp n K p A j b) (hb : b ≤ 160) (ep : (tk tp n j).2.1 = p) (el : (tk tp n j).1 % 100 = l) (c4 : (tk tp n j).1 / 100 = 4) (hK : 0 < (if A 108 l = -1 ∨ A 108 l = A 102 17 then K else bd K 3)) : ∃ v A', f_X11_gives 102 (nI p) (sA h A) = some (v, sA h A') ∧ (v = 0 ∨ v = 1) ∧ FT Z tp n (if A 108 l = -1 ∨ A 108 l = A 102 17 then K else bd K 3) p A' := by
  have hn := W.1.2.1
  have P := tk_pl (tp := tp) (n := n) (j := j) hn
  have C := cd_3 (tk_code (tp := tp) (n := n) (j := j))
  have l5 := C.2.1 c4
  have p1 := P.2.2 (by omega)
  unfold f_X11_gives b_X11_gives_0
  obtain ⟨A1, x1, x2, -⟩ := w_loc (l := l) (q := p) R W (Or.inl rfl) (by omega) (by omega)
  rw [bqq_e] at x2
  obtain ⟨A2, y1, y2, -⟩ := w_next R x2
  obtain ⟨v3, A3, j3, z1, z2, z3, z4⟩ := w_need (c := 701) R y2 hK (by omega)
  rw [v_v R, Option.bind_some, w_which R W.1, Option.bind_some, v_v R, Option.bind_some, el, x1, Option.bind_some, v_v R, Option.bind_some, y1, Option.bind_some, v_v R, Option.bind_some, show f_X11_need 102 (701 : Int32) (sA h A2) = _ from z1, Option.bind_some]
  split
  · exact ⟨0, A3, ok_z_0, Or.inl rfl, hK, _, _, z3⟩
  · exact w_g27 R z3 hb hK z4
end
