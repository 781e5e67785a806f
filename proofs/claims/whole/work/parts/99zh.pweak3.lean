/-! ===== the rest of a statement once a fault is found: writes, guards, says, asks ===== -/
section
variable {Z : Nat → Nat → Int32} {tp : Nat → Nat} {n : Nat} {h : AH} {A A' : Nat → Nat → Int32} {j K p q b : Nat}
abbrev mkC (A : Nat → Nat → Int32) : Prop := (A 107 11 = -1 ∨ A 107 11 = A 102 17) ∧ ¬ 0 < A 102 19 ∧ A 102 20 = 0
/-- an expression whose LOCAL is another's -/
theorem w_expr0 {l : Nat} (R : RZ h) (W : WB Z tp n 0 p A j b) (ep : (tk tp n j).2.1 = p) (c4 : (tk tp n j).1 / 100 = 4) (el : (tk tp n j).1 % 100 = l) (ho : ¬ (A 108 l = -1 ∨ A 108 l = A 102 17)) : ∃ v A' j', f_X11_expression 102 (sA h A) = some (v, sA h A') ∧ (v = 0 ∨ v = 1) ∧ WB Z tp n 3 p A' j' b ∧ p < (tk tp n j').2.1 := by
  have hn := W.1.2.1
  have P := fun j => tk_pl (tp := tp) (n := n) (j := j) hn
  have w23 : ∀ K (A : Nat → Nat → Int32) j v k, WB Z tp n K p A j b → k = 21 ∨ k = 23 → WB Z tp n K p (up_2 A 102 k v) j b := fun K A j v k W hk => wb_cg W (fun r q k1 k2 k3 => u2 (by omega))
  have C := cd_3 (tk_code (tp := tp) (n := n) (j := j))
  have W1 := w23 0 _ j 0 23 (w23 0 A j 0 21 W (by omega)) (by omega)
  have l5 := C.2.1 c4
  unfold f_X11_expression b_X11_expression_0
  rw [v_p R, Option.bind_some, v_p R, Option.bind_some, v_v R, Option.bind_some, w_kind R W1.1, Option.bind_some, if_neg (kf_n (v := 6) (k := 6) (by omega) rfl (by omega) (by omega))]
  unfold b_X11_expression_33
  rw [v_v R, Option.bind_some, w_kind R W1.1, Option.bind_some, if_pos (kf_p (v := 4) c4 rfl)]
  unfold b_X11_expression_52
  have W2 := w23 0 _ j 1 21 W1 (by omega)
  rw [v_p R, Option.bind_some, v_v R, Option.bind_some, w_which R W2.1, Option.bind_some, v_p R, Option.bind_some, v_g R, Option.bind_some, v_g R, Option.bind_some, v_v R, Option.bind_some, u2s, u2 (by omega), el]
  have W3 := wb_22 (l := l) W2 (by omega)
  obtain ⟨A3, y1, y2, -⟩ := w_loc (l := l) (q := p) R W3 (Or.inl rfl) (by have := (P j).1; omega) (by omega)
  rw [if_neg (by rw [u2 (by omega), u2 (by omega), u2 (by omega), u2 (by omega), u2 (by omega), u2 (by omega), u2 (by omega), u2 (by omega)]; exact ho), bqq_e] at y2
  rw [show up_2 (up_2 (up_2 A 102 21 0) 102 23 0) 102 21 1 102 7 = nI p from by rw [← ep]; exact W2.1.1.2.2.2, y1, Option.bind_some, v_v R, Option.bind_some]
  obtain ⟨A4, z1, z2, -⟩ := w_next R y2
  have z2' : WB Z tp n 3 p A4 (j + 1) b := z2
  have p1 : p < (tk tp n (j + 1)).2.1 := by have := (P j).2.2 (by omega); omega
  rw [z1, Option.bind_some, v_g R, Option.bind_some]
  split
  · unfold b_X11_expression_93
    obtain ⟨A5, u1, u2', -⟩ := w_next R z2'
    have p2 : p < (tk tp n (j + 1 + 1)).2.1 := by have := (P (j + 1)).2.1; omega
    rw [v_v R, Option.bind_some, u1, Option.bind_some, v_v R, Option.bind_some, w_kind R u2'.1, Option.bind_some]
    split
    · unfold b_X11_expression_117
      rw [v_v R, Option.bind_some, w_which R u2'.1, Option.bind_some, v_p R, Option.bind_some, v_v R, Option.bind_some]
      obtain ⟨A', x1, x2, -⟩ := w_next R (w23 3 A5 _ (nI ((tk tp n (j + 1 + 1)).1 % 100)) 23 u2' (by omega))
      rw [x1, Option.bind_some]
      exact ⟨1, A', _, ok_z_1, Or.inr rfl, x2, by have := (P (j + 1 + 1)).2.1; omega⟩
    · unfold b_X11_expression_106
      obtain ⟨A', x1, x2⟩ := w_badl (k := 1) R u2' (by omega) p2 (by have := (P (j + 1 + 1)).1; omega) (by omega) (by omega)
      rw [v_g R, Option.bind_some, v_v R, Option.bind_some, u2'.1.1.2.2.2, show f_X11_bad 102 (1 : Int32) (nI (tk tp n (j + 1 + 1)).2.1) (sA h A5) = _ from x1, Option.bind_some]
      exact ⟨0, A', _, ok_z_0, Or.inl rfl, x2, p2⟩
  · exact ⟨1, A4, _, ok_z_1, Or.inr rfl, z2', p1⟩
theorem w_w60 {a2 a3 : Int32} (R : RZ h) (W : WB Z tp n K p A j b) (hb : b ≤ 160) (hK : 0 < K) (hp : p < (tk tp n j).2.1) : ∃ v A', b_X11_writes_60 102 a2 a3 (sA h A) = some (v, sA h A') ∧ (v = 0 ∨ v = 1) ∧ FT Z tp n K p A' := by
  unfold b_X11_writes_60
  obtain ⟨v5, A5, t1, t2, -⟩ := w_emit (a0 := 1) (a1 := a3) (a2 := a2) (a3 := 2 * A 102 22 + A 102 21) (a4 := A 102 23) R W hb
  obtain ⟨v6, A6, j6, s1, s2, s3, s4⟩ := w_need (c := 700) R t2 hK hp
  rw [v_g R, Option.bind_some, v_g R, Option.bind_some, v_g R, Option.bind_some, v_v R, Option.bind_some, t1, Option.bind_some, v_v R, Option.bind_some, show f_X11_need 102 (700 : Int32) (sA h A5) = _ from s1, Option.bind_some]
  exact ⟨v6, A6, ok_zv s2, s2, hK, _, _, s3⟩
theorem w_w51 {a2 a3 : Int32} (R : RZ h) (W : WB Z tp n K p A j b) (hb : b ≤ 160) (hK : 0 < K) (hp : p < (tk tp n j).2.1) : ∃ v A', b_X11_writes_51 102 a2 a3 (sA h A) = some (v, sA h A') ∧ (v = 0 ∨ v = 1) ∧ FT Z tp n K p A' := by
  unfold b_X11_writes_51
  obtain ⟨v4, A4, j4, r1, r2, r3, r4⟩ := w_expr R W hK hp
  rw [v_v R, Option.bind_some, r1, Option.bind_some]
  split
  · exact ⟨0, A4, ok_z_0, Or.inl rfl, hK, _, _, r3⟩
  · exact w_w60 R r3 hb hK r4
theorem w_writes {c : Nat} (R : RZ h) (W : WB Z tp n K p A j b) (hb : b ≤ 160) (ep : (tk tp n j).2.1 = p) (ec : (tk tp n j).1 % 100 = c) (c3 : (tk tp n j).1 / 100 = 3)
    (K1 K2 K3 : Nat) (e1 : (if A 107 c = -1 then bd K 2 else K) = K1) (e2 : (if A 107 c = 2 then (if mkC A then K1 else bd K1 6) else K1) = K2) (e3 : (if A 107 6 = 8 then bd K2 4 else K2) = K3) (hK : 0 < K3) : ∃ v A', f_X11_writes 102 (nI p) (sA h A) = some (v, sA h A') ∧ (v = 0 ∨ v = 1) ∧ FT Z tp n K3 p A' := by
  have hn := W.1.2.1
  have P := fun j => tk_pl (tp := tp) (n := n) (j := j) hn
  have C := cd_3 (tk_code (tp := tp) (n := n) (j := j))
  have l6 := C.1 c3
  have P0 := P j
  have p1 := P0.2.2 (by omega)
  have fin : ∀ A1 : Nat → Nat → Int32, WB Z tp n K2 p A1 j b → A1 107 6 = A 107 6 → ∃ v A', b_X11_writes_28 102 (nI p) (nI c) (sA h A1) = some (v, sA h A') ∧ (v = 0 ∨ v = 1) ∧ FT Z tp n K3 p A' := fun A1 W1 h6 => by
    unfold b_X11_writes_28
    obtain ⟨v1, A2, x1, x2, -⟩ := w_act (q := p) (a1 := 1) (a2 := nI c) (a3 := -1) R W1 (Or.inl rfl) (by omega)
    rw [bqq_e, h6, e3] at x2
    obtain ⟨A3, y1, y2, -⟩ := w_next R x2
    obtain ⟨v3, A4, j3, z1, z2, z3, z4⟩ := w_need (c := 701) R y2 hK (by omega)
    rw [v_v R, Option.bind_some, x1, Option.bind_some, v_v R, Option.bind_some, y1, Option.bind_some, v_v R, Option.bind_some, show f_X11_need 102 (701 : Int32) (sA h A3) = _ from z1, Option.bind_some]
    split
    · exact ⟨0, A4, ok_z_0, Or.inl rfl, hK, _, _, z3⟩
    · exact w_w51 R z3 hb hK z4
  unfold f_X11_writes b_X11_writes_0
  obtain ⟨A1, x1, x2, x3⟩ := w_cell (c := c) (q := p) R W (Or.inl rfl) (by omega) (by omega)
  rw [bqq_e, e1] at x2
  rw [v_v R, Option.bind_some, w_which R W.1, Option.bind_some, v_v R, Option.bind_some, ec, x1, Option.bind_some, v_r7 R, Option.bind_some, ad, Nat.zero_add, v_l7 R (by omega), Option.bind_some, x3 107 c (by omega)]
  by_cases c2 : A 107 c = 2
  · rw [if_pos c2] at e2 ⊢
    unfold b_X11_writes_23
    obtain ⟨A2, y1, y2, y3⟩ := w_mk (q := p) R x2 (Or.inl rfl) (by omega)
    rw [x3 107 11 (by omega), x3 102 17 (by omega), x3 102 19 (by omega), x3 102 20 (by omega), bqq_e] at y2
    have e2' : (if (A 107 11 = -1 ∨ A 107 11 = A 102 17) ∧ ¬ 0 < A 102 19 ∧ A 102 20 = 0 then K1 else bd K1 6) = K2 := by
      rw [← e2]
    rw [e2'] at y2
    rw [v_v R, Option.bind_some, y1, Option.bind_some]
    exact fin A2 y2 (by rw [y3 _ _ (by omega) (by omega), x3 _ _ (by omega)])
  · rw [if_neg c2] at e2 ⊢
    rw [e2] at x2
    exact fin A1 x2 (x3 _ _ (by omega))
theorem w_says (R : RZ h) (W : WB Z tp n K p A j b) (hb : b ≤ 160) (ep : (tk tp n j).2.1 = p) (hc : (tk tp n j).1 ≠ 0)
    (K1 K2 : Nat) (e1 : (if A 107 6 = 8 then bd K 4 else K) = K1) (e2 : (if mkC A then K1 else bd K1 6) = K2) (hK : 0 < K2) : ∃ v A', f_X11_says 102 (nI p) (sA h A) = some (v, sA h A') ∧ (v = 0 ∨ v = 1) ∧ FT Z tp n K2 p A' := by
  have hn := W.1.2.1
  have P := tk_pl (tp := tp) (n := n) (j := j) hn
  have p1 := P.2.2 hc
  unfold f_X11_says b_X11_says_0
  obtain ⟨v1, A1, x1, x2, x3⟩ := w_act (q := p) (a1 := 5) (a2 := -1) (a3 := -1) R W (Or.inl rfl) (by omega)
  rw [bqq_e, e1] at x2
  obtain ⟨A2, y1, y2, y3⟩ := w_mk (q := p) R x2 (Or.inl rfl) (by omega)
  rw [x3 107 11 (by omega) (by omega), x3 102 17 (by omega) (by omega), x3 102 19 (by omega) (by omega), x3 102 20 (by omega) (by omega), bqq_e] at y2
  have e2' : (if (A 107 11 = -1 ∨ A 107 11 = A 102 17) ∧ ¬ 0 < A 102 19 ∧ A 102 20 = 0 then K1 else bd K1 6) = K2 := by
    rw [← e2]
  rw [e2'] at y2
  have W3 : WB Z tp n K2 p (up_2 A2 102 20 1) j b := wb_cg y2 (fun r q k1 k2 k3 => u2 (by omega))
  obtain ⟨v3, A3, A4, v5, A5, z1, z2, z3, z4, z5⟩ := w_enn (a0 := 5) (a1 := v1) (a2 := 0) (a3 := 0) (a4 := 0) (c := 700) R W3 hb hK (by omega)
  rw [v_v R, Option.bind_some, x1, Option.bind_some, v_v R, Option.bind_some, y1, Option.bind_some, show p_z (sA h A2) 102 11 20 1 = some (sA h (up_2 A2 102 20 1)) from if_pos ⟨R.1, Or.inr rfl⟩, Option.bind_some, v_v R, Option.bind_some, z1, Option.bind_some, v_v R, Option.bind_some, z2, Option.bind_some, v_v R, Option.bind_some, show f_X11_need 102 (700 : Int32) (sA h A4) = _ from z3, Option.bind_some]
  exact ⟨v5, A5, ok_zv z4, z4, z5⟩
/-- from the monitor on: the fault's place is the statement's -/
theorem w_g41 {a1 : Int32} {m : Nat} (R : RZ h) (W : WB Z tp n K p A j b) (hb : b ≤ 160) (hp : p < (tk tp n j).2.1) (em : (tk tp n j).1 % 100 = m)
    (K1 K2 : Nat) (e1 : (if (A 102 18 >>> (nI m &&& 31)) &&& 1 = (if a1 = 0 then 0 else 1) then bd K 5 else K) = K1) (e2 : (if A 107 6 = 8 then bd K1 4 else K1) = K2) (hK : 0 < K2) : ∃ v A', b_X11_guards_41 102 a1 (nI p) (sA h A) = some (v, sA h A') ∧ (v = 0 ∨ v = 1) ∧ FT Z tp n K2 p A' := by
  have hn := W.1.2.1
  have P := tk_pl (tp := tp) (n := n) (j := j) hn
  have f125 : ∀ (A1 : Nat → Nat → Int32) s2, WB Z tp n K1 p A1 j b → A1 107 6 = A 107 6 → ∃ v A', b_X11_guards_125 102 a1 (nI m) 102 (nI p) s2 (sA h A1) = some (v, sA h A') ∧ (v = 0 ∨ v = 1) ∧ FT Z tp n K2 p A' := fun A1 s2 W1 h6 => by
    unfold b_X11_guards_125
    obtain ⟨v1, A2, x1, x2, x3⟩ := w_act (q := p) (a1 := s2) (a2 := nI m) (a3 := -1) R W1 (Or.inl rfl) (by omega)
    rw [bqq_e, h6, e2] at x2
    have f142 : ∀ s1, ∃ v A', b_X11_guards_142 102 (nI m) v1 102 s1 (sA h A2) = some (v, sA h A') ∧ (v = 0 ∨ v = 1) ∧ FT Z tp n K2 p A' := fun s1 => by
      unfold b_X11_guards_142
      obtain ⟨v3, A3, A4, v5, A5, z1, z2, z3, z4, z5⟩ := w_enn (a0 := s1) (a1 := v1) (a2 := nI m) (a3 := 0) (a4 := 0) (c := 700) R x2 hb hK (by omega)
      rw [v_v R, Option.bind_some, z1, Option.bind_some, v_v R, Option.bind_some, z2, Option.bind_some, v_v R, Option.bind_some, show f_X11_need 102 (700 : Int32) (sA h A4) = _ from z3, Option.bind_some]
      exact ⟨v5, A5, ok_zv z4, z4, z5⟩
    rw [v_v R, Option.bind_some, x1, Option.bind_some]
    split
    · exact f142 _
    · exact f142 _
  have f98 : ∀ (A1 : Nat → Nat → Int32) s1, WB Z tp n K1 p A1 j b → A1 107 6 = A 107 6 → ∃ v A', b_X11_guards_98 102 a1 (nI p) (nI m) 102 s1 (sA h A1) = some (v, sA h A') ∧ (v = 0 ∨ v = 1) ∧ FT Z tp n K2 p A' := fun A1 s1 W1 h6 => by
    unfold b_X11_guards_98
    rw [v_p R, Option.bind_some, v_r7 R, Option.bind_some, show l_i (sA h (up_2 A1 102 18 s1)) 107 (10 : Int32) = _ from v_l7 (k := 10) R (by omega), Option.bind_some, show ∀ v, s_i (sA h (up_2 A1 102 18 s1)) 107 (10 : Int32) v = _ from fun v => v_s7 (k := 10) R (by omega), Option.bind_some]
    have W2 : ∀ v, WB Z tp n K1 p (up_2 (up_2 A1 102 18 s1) 107 10 v) j b := fun v => wb_cg W1 (fun r q k1 k2 k3 => by rw [u2 (by omega), u2 (by omega)])
    split
    · exact f125 _ _ (W2 _) (by rw [u2 (by omega), u2 (by omega)]; exact h6)
    · exact f125 _ _ (W2 _) (by rw [u2 (by omega), u2 (by omega)]; exact h6)
  have f72 : ∀ (A1 : Nat → Nat → Int32), WB Z tp n K1 p A1 j b → A1 107 6 = A 107 6 → ∃ v A', b_X11_guards_72 102 a1 (nI p) (nI m) (sA h A1) = some (v, sA h A') ∧ (v = 0 ∨ v = 1) ∧ FT Z tp n K2 p A' := fun A1 W1 h6 => by
    unfold b_X11_guards_72
    split
    · unfold b_X11_guards_88
      rw [v_g R, Option.bind_some]
      exact f98 _ _ W1 h6
    · unfold b_X11_guards_77
      rw [v_g R, Option.bind_some]
      exact f98 _ _ W1 h6
  have f63 : ∃ v A', b_X11_guards_63 102 a1 (nI p) (nI m) ((A 102 18 >>> (nI m &&& 31)) &&& 1) (if a1 = 0 then 0 else 1) (sA h A) = some (v, sA h A') ∧ (v = 0 ∨ v = 1) ∧ FT Z tp n K2 p A' := by
    unfold b_X11_guards_63
    by_cases c : (A 102 18 >>> (nI m &&& 31)) &&& 1 = (if a1 = 0 then 0 else 1)
    · rw [if_pos c] at e1 ⊢
      unfold b_X11_guards_66
      obtain ⟨A2, y1, y2, y3⟩ := w_bg (k := 5) (q := p) R W (Or.inl rfl) (by omega) (by omega) (by omega)
      rw [bqq_e, e1] at y2
      rw [v_v R, Option.bind_some, show f_X11_bad 102 (5 : Int32) (nI p) (sA h A) = _ from y1, Option.bind_some]
      exact f72 A2 y2 (y3 _ _ (by omega))
    · rw [if_neg c] at e1 ⊢
      subst e1
      exact f72 A W rfl
  unfold b_X11_guards_41
  rw [v_v R, Option.bind_some, w_which R W.1, Option.bind_some, v_g R, Option.bind_some, em]
  by_cases c : a1 = 0
  · rw [if_pos c]
    rw [if_pos c] at f63
    exact f63
  · rw [if_neg c]
    rw [if_neg c] at f63
    exact f63
theorem w_guards {a1 : Int32} (R : RZ h) (W : WB Z tp n K p A j b) (hb : b ≤ 160) (ep : (tk tp n j).2.1 = p) (hc : (tk tp n j).1 ≠ 0)
    (K1 : Nat) (e1 : (if A 107 6 = 8 then bd K 4 else K) = K1) (hK : 0 < K1) (hK4 : K1 ≤ 4) : ∃ v A', f_X11_guards 102 a1 (nI p) (sA h A) = some (v, sA h A') ∧ (v = 0 ∨ v = 1) ∧ FT Z tp n K1 p A' := by
  have hn := W.1.2.1
  have P := fun j => tk_pl (tp := tp) (n := n) (j := j) hn
  have P0 := P j
  have P1 := P (j + 1)
  have p1 := P0.2.2 hc
  have f18 : ∀ (A1 : Nat → Nat → Int32), WB Z tp n K1 p A1 j b → A1 107 6 = A 107 6 → ∃ v A', b_X11_guards_18 102 a1 (nI p) (sA h A1) = some (v, sA h A') ∧ (v = 0 ∨ v = 1) ∧ FT Z tp n K1 p A' := fun A1 W1 h6 => by
    unfold b_X11_guards_18
    obtain ⟨A2, x1, x2, x3⟩ := w_next R W1
    rw [v_v R, Option.bind_some, x1, Option.bind_some, v_v R, Option.bind_some, w_kind R x2.1, Option.bind_some]
    split
    · refine w_g41 R x2 hb (by omega) rfl K1 K1 ?_ ?_ hK
      · have : bd K1 5 = K1 := by unfold bd; rw [if_neg (by omega)]
        rw [this, ite_self]
      · have : bd K1 4 = K1 := by unfold bd; rw [if_neg (by omega)]
        rw [this, ite_self]
    · unfold b_X11_guards_30
      obtain ⟨A3, y1, y2⟩ := w_badl (k := 1) R x2 hK (show p < (tk tp n (j + 1)).2.1 by omega) (by omega) (by omega) (by omega)
      rw [v_g R, Option.bind_some, v_v R, Option.bind_some, x2.1.1.2.2.2, show f_X11_bad 102 (1 : Int32) (nI (tk tp n (j + 1)).2.1) (sA h A2) = _ from y1, Option.bind_some]
      exact ⟨0, A3, ok_z_0, Or.inl rfl, hK, _, _, y2⟩
  unfold f_X11_guards b_X11_guards_0
  rw [v_r7 R, Option.bind_some, show l_i (sA h A) 107 (6 : Int32) = _ from v_l7 (k := 6) R (by omega), Option.bind_some]
  by_cases c : A 107 6 = 8
  · rw [if_pos c] at e1 ⊢
    unfold b_X11_guards_12
    obtain ⟨A2, y1, y2, y3⟩ := w_bg (k := 4) (q := p) R W (Or.inl rfl) (by omega) (by omega) (by omega)
    rw [bqq_e, e1] at y2
    rw [v_v R, Option.bind_some, show f_X11_bad 102 (4 : Int32) (nI p) (sA h A) = _ from y1, Option.bind_some]
    exact f18 A2 y2 (y3 _ _ (by omega))
  · rw [if_neg c] at e1 ⊢
    subst e1
    exact f18 A W rfl
/-- a test: from its LOCAL on -/
theorem w_a37 {rc : Nat → Int32 → AH → Option (Int32 × AH)} {l : Nat} (R : RZ h) (W : WB Z tp n K p A j b) (hb : b ≤ 160) (hq : p = (tk tp n j).2.1 ∨ (p < (tk tp n j).2.1 ∧ 0 < K)) (c4 : (tk tp n j).1 / 100 = 4) (el : (tk tp n j).1 % 100 = l)
    (K1 : Nat) (e1 : (if A 108 l = -1 ∨ A 108 l = A 102 17 then K else bqq K p (tk tp n j).2.1 3) = K1) (hK : 0 < K1) : ∃ A', b_X11_asks_37 rc 102 (sA h A) = some (0, sA h A') ∧ FT Z tp n K1 p A' := by
  have hn := W.1.2.1
  have P := fun j => tk_pl (tp := tp) (n := n) (j := j) hn
  have P0 := P j
  have C := cd_3 (tk_code (tp := tp) (n := n) (j := j))
  have l5 := C.2.1 c4
  have p1 := P0.2.2 (by omega)
  unfold b_X11_asks_37
  obtain ⟨A1, x1, x2, -⟩ := w_loc (l := l) (q := (tk tp n j).2.1) R W hq (by omega) (by omega)
  rw [e1] at x2
  obtain ⟨A2, y1, y2, -⟩ := w_next R x2
  obtain ⟨v3, A3, j3, z1, z2, z3, z4⟩ := w_need (c := 702) R y2 hK (by omega)
  rw [v_v R, Option.bind_some, w_which R W.1, Option.bind_some, v_g R, Option.bind_some, v_v R, Option.bind_some, W.1.1.2.2.2, el, x1, Option.bind_some, v_v R, Option.bind_some, y1, Option.bind_some, v_v R, Option.bind_some, show f_X11_need 102 (702 : Int32) (sA h A2) = _ from z1, Option.bind_some]
  split
  · exact ⟨A3, ok_z_0, hK, _, _, z3⟩
  · unfold b_X11_asks_67
    have P3 := P j3
    rw [v_v R, Option.bind_some, w_kind R z3.1, Option.bind_some]
    split
    · unfold b_X11_asks_87
      obtain ⟨v4, A4, t1, t2, -⟩ := w_emit (a0 := 7) (a1 := nI l) (a2 := nI ((tk tp n j3).1 % 100)) (a3 := 0) (a4 := 0) R z3 hb
      obtain ⟨A5, s1, s2, -⟩ := w_next R t2
      rw [v_v R, Option.bind_some, w_which R z3.1, Option.bind_some, v_v R, Option.bind_some, t1, Option.bind_some, v_v R, Option.bind_some, s1, Option.bind_some, v_g R, Option.bind_some, v_g R, Option.bind_some]
      have F : RFt A5 K1 p := s2.2.1.resolve_left (fun x => absurd x.1 (by omega))
      rw [F.1, if_neg (nI_ne0 F.2.2.1 (by have := F.2.2.2.1; omega))]
      exact ⟨A5, ok_z_0, hK, _, _, s2⟩
    · unfold b_X11_asks_76
      obtain ⟨A4, t1, t2⟩ := w_badl (k := 1) R z3 hK z4 (by omega) (by omega) (by omega)
      rw [v_g R, Option.bind_some, v_v R, Option.bind_some, z3.1.1.2.2.2, show f_X11_bad 102 (1 : Int32) (nI (tk tp n j3).2.1) (sA h A3) = _ from t1, Option.bind_some]
      exact ⟨A4, ok_z_0, hK, _, _, t2⟩
theorem w_asks {rc : Nat → Int32 → AH → Option (Int32 × AH)} (R : RZ h) (W : WB Z tp n K p A j b) (hb : b ≤ 160) (ep : (tk tp n j).2.1 = p) (hc : (tk tp n j).1 ≠ 0)
    (K1 : Nat) (e1 : (if A 102 19 = 3 then bd K 4 else K) = K1) (hK : 0 < K1) : ∃ A', f_X11_asks rc 102 (nI p) (sA h A) = some (0, sA h A') ∧ FT Z tp n K1 p A' := by
  have hn := W.1.2.1
  have P := fun j => tk_pl (tp := tp) (n := n) (j := j) hn
  have P0 := P j
  have P1 := P (j + 1)
  have p1 := P0.2.2 hc
  have f14 : ∀ (A1 : Nat → Nat → Int32), WB Z tp n K1 p A1 j b → ∃ A', b_X11_asks_14 rc 102 (sA h A1) = some (0, sA h A') ∧ FT Z tp n K1 p A' := fun A1 W1 => by
    unfold b_X11_asks_14
    obtain ⟨A2, x1, x2, x3⟩ := w_next R W1
    rw [v_v R, Option.bind_some, x1, Option.bind_some, v_v R, Option.bind_some, w_kind R x2.1, Option.bind_some]
    have C := cd_3 (tk_code (tp := tp) (n := n) (j := j + 1))
    by_cases c4 : (tk tp n (j + 1)).1 / 100 = 4
    · rw [if_pos (kf_p (v := 4) c4 rfl)]
      exact w_a37 R x2 hb (Or.inr ⟨by omega, hK⟩) c4 rfl K1 (bqq_r (by omega)) hK
    · rw [if_neg (kf_n (v := 4) c4 rfl (by omega) (by omega))]
      unfold b_X11_asks_26
      obtain ⟨A3, y1, y2⟩ := w_badl (k := 1) R x2 hK (show p < (tk tp n (j + 1)).2.1 by omega) (by omega) (by omega) (by omega)
      rw [v_g R, Option.bind_some, v_v R, Option.bind_some, x2.1.1.2.2.2, show f_X11_bad 102 (1 : Int32) (nI (tk tp n (j + 1)).2.1) (sA h A2) = _ from y1, Option.bind_some]
      exact ⟨A3, ok_z_0, hK, _, _, y2⟩
  unfold f_X11_asks b_X11_asks_0
  rw [v_g R, Option.bind_some]
  by_cases c : A 102 19 = 3
  · rw [if_pos c] at e1 ⊢
    unfold b_X11_asks_8
    obtain ⟨A2, y1, y2, y3⟩ := w_bg (k := 4) (q := p) R W (Or.inl rfl) (by omega) (by omega) (by omega)
    rw [bqq_e, e1] at y2
    rw [v_v R, Option.bind_some, show f_X11_bad 102 (4 : Int32) (nI p) (sA h A) = _ from y1, Option.bind_some]
    exact f14 A2 y2
  · rw [if_neg c] at e1 ⊢
    subst e1
    exact f14 A W
end
