/-! ===== the reference's expressions, exactly ===== -/
section
variable {Z : Nat → Nat → Int32} {tp : Nat → Nat} {n : Nat} {h : AH} {A A' : Nat → Nat → Int32} {j0 tc j th hd ne st : Nat} {E : List Ent} {AL : List Act} {SL : List Nat} {ow : Nat → Int32} {lb mb mk dn : Int32} {kd : Nat → Int32}
theorem s_bad1 (R : RZ h) (S : RR Z tp n A j0 tc j th hd ne st E AL SL ow lb mb mk dn kd) : ∃ A', (g_i (sA h A) 102 11 7).bind (fun x1 => (ok_v (sA h A) 102 11).bind fun _ => (f_X11_bad 102 1 x1 (sA h A)).bind fun h3 => ok_z 0 h3) = some (0, sA h A') ∧ FT Z tp n 1 (tk tp n j).2.1 A' := by
  have P := tk_pl (tp := tp) (n := n) (j := j) S.1.2.1
  have hn := S.1.2.1
  obtain ⟨A', x1, x2, -⟩ := s_bad (k := 1) (q := (tk tp n j).2.1) R S (by omega) (by omega) (by omega)
  rw [v_g R, Option.bind_some, v_v R, Option.bind_some, S.1.1.2.2.2, show f_X11_bad 102 (1 : Int32) (nI (tk tp n j).2.1) (sA h A) = _ from x1, Option.bind_some]
  exact ⟨A', ok_z_0, by omega, _, _, x2⟩
theorem s_dig (R : RZ h) (S : RR Z tp n A j0 tc j th hd ne st E AL SL ow lb mb mk dn kd) (h1 : 0 < SL.length) (htc : tc < 480) : ∃ A', (ok_v (sA h A) 102 11).bind (fun _ => (f_X11_which 102 (sA h A)).bind fun q2 => (p_i q2.2 102 11 23 q2.1).bind fun h3 => (ok_v h3 102 11).bind fun _ => (f_X11_next 102 h3).bind fun h5 => ok_z 1 h5) = some (1, sA h A') ∧ RR Z tp n A' j0 (tc + 1) (j + 1) th hd ne st E AL SL ow lb mb mk dn kd ∧ A' 102 21 = A 102 21 ∧ A' 102 22 = A 102 22 ∧ A' 102 23 = nI ((tk tp n j).1 % 100) := by
  rw [v_v R, Option.bind_some, w_which R S.1, Option.bind_some, v_p R, Option.bind_some, v_v R, Option.bind_some]
  obtain ⟨A', x1, x2, x3⟩ := r_next R (rr_102 (k := 23) (v := nI ((tk tp n j).1 % 100)) S (by omega)) h1 htc
  rw [x1, Option.bind_some]
  exact ⟨A', ok_z_1, x2, by rw [x3 _ (by omega) (by omega) (by omega), u2 (by omega)], by rw [x3 _ (by omega) (by omega) (by omega), u2 (by omega)], by rw [x3 _ (by omega) (by omega) (by omega), u2s]⟩
theorem s_ex1 (R : RZ h) (S : RR Z tp n A j0 tc j th hd ne st E AL SL ow lb mb mk dn kd) (h1 : 0 < SL.length) (htc : tc < 480) (c6 : (tk tp n j).1 / 100 = 6) : ∃ A', f_X11_expression 102 (sA h A) = some (1, sA h A') ∧ RR Z tp n A' j0 (tc + 1) (j + 1) th hd ne st E AL SL ow lb mb mk dn kd ∧ A' 102 21 = 0 ∧ A' 102 22 = A 102 22 ∧ A' 102 23 = nI ((tk tp n j).1 % 100) := by
  have S1 := rr_102 (k := 23) (v := 0) (rr_102 (k := 21) (v := 0) S (by omega)) (by omega)
  unfold f_X11_expression b_X11_expression_0
  rw [v_p R, Option.bind_some, v_p R, Option.bind_some, v_v R, Option.bind_some, w_kind R S1.1, Option.bind_some, if_pos (kf_p (v := 6) c6 rfl)]
  obtain ⟨A', x1, x2, x3, x4, x5⟩ := s_dig R S1 h1 htc
  exact ⟨A', x1, x2, by rw [x3, u2 (by omega), u2s], by rw [x4, u2 (by omega), u2 (by omega)], x5⟩
theorem s_ex5 (R : RZ h) (S : RR Z tp n A j0 tc j th hd ne st E AL SL ow lb mb mk dn kd) (c4 : (tk tp n j).1 / 100 ≠ 4) (c6 : (tk tp n j).1 / 100 ≠ 6) : ∃ A', f_X11_expression 102 (sA h A) = some (0, sA h A') ∧ FT Z tp n 1 (tk tp n j).2.1 A' := by
  have C := cd_3 (tk_code (tp := tp) (n := n) (j := j))
  have S1 := rr_102 (k := 23) (v := 0) (rr_102 (k := 21) (v := 0) S (by omega)) (by omega)
  unfold f_X11_expression b_X11_expression_0
  rw [v_p R, Option.bind_some, v_p R, Option.bind_some, v_v R, Option.bind_some, w_kind R S1.1, Option.bind_some, if_neg (kf_n (v := 6) c6 rfl (by omega) (by omega))]
  unfold b_X11_expression_33
  rw [v_v R, Option.bind_some, w_kind R S1.1, Option.bind_some, if_neg (kf_n (v := 4) c4 rfl (by omega) (by omega))]
  exact s_bad1 R S1
/-- an expression's LOCAL -/
theorem s_exl {l : Nat} (R : RZ h) (S : RR Z tp n A j0 tc j th hd ne st E AL SL ow lb mb mk dn kd) (h1 : 0 < SL.length) (htc : tc < 480) (c4 : (tk tp n j).1 / 100 = 4) (el : (tk tp n j).1 % 100 = l) (ho : owL ow l th l = nI th) :
    ∃ A', f_X11_expression 102 (sA h A) = (if (tk tp n (j + 1)).1 = 704 then b_X11_expression_93 102 (sA h A') else some (1, sA h A')) ∧ RR Z tp n A' j0 (tc + 1) (j + 1) th hd ne st E AL SL (owL ow l th) (lbL lb l) mb mk dn kd ∧ A' 102 21 = 1 ∧ A' 102 22 = nI l ∧ A' 102 23 = 0 := by
  have C := cd_3 (tk_code (tp := tp) (n := n) (j := j))
  have C1 := cd_3 (tk_code (tp := tp) (n := n) (j := j + 1))
  have l5 := C.2.1 c4
  have S1 := rr_102 (k := 23) (v := 0) (rr_102 (k := 21) (v := 0) S (by omega)) (by omega)
  unfold f_X11_expression b_X11_expression_0
  rw [v_p R, Option.bind_some, v_p R, Option.bind_some, v_v R, Option.bind_some, w_kind R S1.1, Option.bind_some, if_neg (kf_n (v := 6) (k := 6) (by omega) rfl (by omega) (by omega))]
  unfold b_X11_expression_33
  rw [v_v R, Option.bind_some, w_kind R S1.1, Option.bind_some, if_pos (kf_p (v := 4) c4 rfl)]
  unfold b_X11_expression_52
  have S2 := rr_102 (k := 21) (v := 1) S1 (by omega)
  have S3 := rr_102 (k := 22) (v := nI l) S2 (Or.inr (Or.inr ⟨rfl, l, by omega, rfl⟩))
  rw [v_p R, Option.bind_some, v_v R, Option.bind_some, w_which R S2.1, Option.bind_some, v_p R, Option.bind_some, v_g R, Option.bind_some, v_g R, Option.bind_some, v_v R, Option.bind_some, el, u2s]
  obtain ⟨A3, y1, y2, y3⟩ := s_loc (l := l) (q := up_2 (up_2 (up_2 (up_2 A 102 21 0) 102 23 0) 102 21 1) 102 22 (nI l) 102 7) R S3 (by omega) ho
  rw [y1, Option.bind_some, v_v R, Option.bind_some]
  obtain ⟨A4, z1, z2, z3⟩ := r_next R y2 h1 htc
  rw [z1, Option.bind_some, v_g R, Option.bind_some, z2.1.1.2.2.1]
  refine ⟨A4, ?_, z2, ?_, ?_, ?_⟩
  · by_cases c : (tk tp n (j + 1)).1 = 704
    · rw [if_pos c, c, if_pos (show nI 704 = (704 : Int32) from rfl)]
    · rw [if_neg c, if_neg (show ¬ nI (tk tp n (j + 1)).1 = (704 : Int32) from fun y => c ((nI_eq (b := 704) (by omega) (by omega)).mp y))]
      exact ok_z_1
  · rw [z3 _ (by omega) (by omega) (by omega), y3, u2 (by omega), u2s]
  · rw [z3 _ (by omega) (by omega) (by omega), y3, u2s]
  · rw [z3 _ (by omega) (by omega) (by omega), y3, u2 (by omega), u2 (by omega), u2s]
theorem s_ex93 {l : Nat} (R : RZ h) (S : RR Z tp n A j0 tc j th hd ne st E AL SL ow lb mb mk dn kd) (h1 : 0 < SL.length) (htc : tc + 1 < 480) (a1 : A 102 21 = 1) (a2 : A 102 22 = nI l) :
    ((tk tp n (j + 1)).1 / 100 = 6 ∧ ∃ A', b_X11_expression_93 102 (sA h A) = some (1, sA h A') ∧ RR Z tp n A' j0 (tc + 2) (j + 2) th hd ne st E AL SL ow lb mb mk dn kd ∧ A' 102 21 = 1 ∧ A' 102 22 = nI l ∧ A' 102 23 = nI ((tk tp n (j + 1)).1 % 100)) ∨
    ((tk tp n (j + 1)).1 / 100 ≠ 6 ∧ ∃ A', b_X11_expression_93 102 (sA h A) = some (0, sA h A') ∧ FT Z tp n 1 (tk tp n (j + 1)).2.1 A') := by
  have C1 := cd_3 (tk_code (tp := tp) (n := n) (j := j + 1))
  obtain ⟨A1, x1, x2, x3⟩ := r_next R S h1 (by omega)
  unfold b_X11_expression_93
  rw [v_v R, Option.bind_some, x1, Option.bind_some, v_v R, Option.bind_some, w_kind R x2.1, Option.bind_some]
  by_cases c6 : (tk tp n (j + 1)).1 / 100 = 6
  · left
    refine ⟨c6, ?_⟩
    rw [if_pos (kf_p (v := 6) c6 rfl)]
    obtain ⟨A', y1, y2, y3, y4, y5⟩ := s_dig R x2 h1 htc
    exact ⟨A', y1, y2, by rw [y3, x3 _ (by omega) (by omega) (by omega), a1], by rw [y4, x3 _ (by omega) (by omega) (by omega), a2], y5⟩
  · right
    refine ⟨c6, ?_⟩
    rw [if_neg (kf_n (v := 6) c6 rfl (by omega) (by omega))]
    exact s_bad1 R x2
/-- the last token was no digit -/
theorem s_last (R : RZ h) (S : RR Z tp n A j0 tc j th hd ne st E AL SL ow lb mb mk dn kd) (h0 : 0 < tc) : f_X11_lastWasSum 102 (sA h A) = some (if (tk tp n (j0 + tc - 1)).1 / 100 = 6 then 1 else 0, sA h A) := by
  obtain ⟨t, rfl⟩ : ∃ t, tc = t + 1 := ⟨tc - 1, by omega⟩
  obtain ⟨k1, k2, k3, k4⟩ := S.2.2.2.2.2.2.2.2.1
  have C := cd_3 (tk_code (tp := tp) (n := n) (j := j0 + t))
  unfold f_X11_lastWasSum b_X11_lastWasSum_0
  rw [v_r7 R, Option.bind_some, Option.bind_some, show l_i (sA h A) 107 (12 : Int32) = _ from v_l7 (k := 12) R (by omega), Option.bind_some, S.2.2.2.1.2.2.2.2.2.2, ad, show nI (400 + (t + 1)) - 1 = nI (400 + t) from by rw [show 400 + (t + 1) = 400 + t + 1 by omega, ← nI_1, Int32.add_sub_cancel], v_l7 R (by omega), Option.bind_some, k4 t (by omega), d100 C.2.2.2.2, Option.bind_some, show j0 + (t + 1) - 1 = j0 + t by omega]
  by_cases c : (tk tp n (j0 + t)).1 / 100 = 6
  · rw [if_pos c, c, if_pos (show nI 6 = (6 : Int32) from rfl)]
    exact ok_z_1
  · rw [if_neg c, if_neg (show ¬ nI ((tk tp n (j0 + t)).1 / 100) = (6 : Int32) from fun y => c ((nI_eq (b := 6) (by omega) (by omega)).mp y))]
    exact ok_z_0
/-- makes -/
theorem mk_iff (S : RR Z tp n A j0 tc j th hd ne st E AL SL ow lb mb mk dn kd) (hm : dn ≠ -1 → mk ≠ -1) : mkC A ↔ (mkL mk th = nI th ∧ ne = 0 ∧ dn = -1) := by
  obtain ⟨a, ⟨w1, w2, w3, w4, w5, w6⟩, c, ⟨d1, d2, d3, d4, d5, d6, d7⟩, e', f, g, i, k, l1, l2, l3, l4, l5, l6, l7⟩ := S
  unfold mkC mkL
  rw [d6, w3, w5, w6]
  have n0 : ¬ (0 : Int32) < nI ne ↔ ne = 0 := by
    rw [show (0 : Int32) = nI 0 from rfl, nI_ltI (by omega) (by omega)]; omega
  rw [n0]
  by_cases e1 : mk = -1
  · rw [if_pos e1]
    have : dn = -1 := by
      by_cases c : dn = -1
      · exact c
      · exact absurd e1 (hm c)
    rw [if_neg (fun y => y.1 this)]
    exact ⟨fun y => ⟨rfl, y.2.1, this⟩, fun y => ⟨Or.inl e1, y.2.1, rfl⟩⟩
  · rw [if_neg e1]
    by_cases e2 : mk = nI th
    · by_cases e3 : dn = -1
      · rw [if_neg (fun y => y.1 e3)]
        exact ⟨fun y => ⟨e2, y.2.1, e3⟩, fun y => ⟨Or.inr e2, y.2.1, rfl⟩⟩
      · rw [if_pos ⟨e3, e2⟩]
        exact ⟨fun y => absurd y.2.2 (by decide), fun y => absurd y.2.2 e3⟩
    · exact ⟨fun y => absurd (y.1.resolve_left e1) e2, fun y => absurd y.1 e2⟩
theorem s_mk {q : Int32} (R : RZ h) (S : RR Z tp n A j0 tc j th hd ne st E AL SL ow lb mb mk dn kd) (ho : mkL mk th = nI th ∧ ne = 0 ∧ dn = -1) : ∃ A', f_X11_makes 102 q (sA h A) = some (sA h A') ∧ RR Z tp n A' j0 tc j th hd ne st E AL SL ow lb mb (mkL mk th) dn kd ∧ A' 102 = A 102 := by
  have S' := S
  obtain ⟨a, ⟨w1, w2, w3, w4, w5, w6⟩, c, ⟨d1, d2, d3, d4, d5, d6, d7⟩, e', f, g, i, k, l1, l2, l3, l4, l5, l6, l7⟩ := S
  have fin : ∀ A1 : Nat → Nat → Int32, (∀ r k, ¬ (r = 107 ∧ k = 11) → A1 r k = A r k) → A1 107 11 = nI th → b_X11_makes_22 102 q (sA h A1) = some (sA h A1) ∧ RR Z tp n A1 j0 tc j th hd ne st E AL SL ow lb mb (mkL mk th) dn kd ∧ A1 102 = A 102 := fun A1 hk h11 => by
    refine ⟨?_, ?_, by funext k; exact hk _ _ (by omega)⟩
    · unfold b_X11_makes_22
      rw [v_r7 R, Option.bind_some, show l_i (sA h A1) 107 (11 : Int32) = _ from v_l7 (k := 11) R (by omega), Option.bind_some, v_g R, Option.bind_some, hk 102 17 (by omega), h11, w3, if_pos rfl]
      unfold b_X11_makes_36
      rw [v_g R, Option.bind_some, hk 102 19 (by omega), w5, ho.2.1, if_neg (by decide)]
      unfold b_X11_makes_43
      rw [v_g R, Option.bind_some, hk 102 20 (by omega), show A 102 20 = 0 from by rw [w6, if_neg (fun y => y.1 ho.2.2)], if_pos rfl]
      rfl
    · refine rr_fld S' (rt_cg a (fun r k k1 k2 k3 => hk r k (by omega))) (fun r k k1 k2 k3 => hk r k (by omega)) (fun l hl => by rw [hk _ _ (by omega)]; exact c l hl) ?_ ?_ ?_ ?_ ?_ ?_ ?_ l6 l7 l4
      · rw [hk _ _ (by omega)]; exact w4
      · rw [hk _ _ (by omega)]; exact w5
      · rw [hk _ _ (by omega), w6, if_neg (fun y => y.1 ho.2.2), if_neg (fun y => y.1 ho.2.2)]
      · rw [hk _ _ (by omega)]; exact d3
      · rw [hk _ _ (by omega)]; exact d4
      · rw [hk _ _ (by omega)]; exact d5
      · rw [h11, ho.1]
  unfold f_X11_makes b_X11_makes_0
  rw [v_r7 R, Option.bind_some, show l_i (sA h A) 107 (11 : Int32) = _ from v_l7 (k := 11) R (by omega), Option.bind_some, d6]
  by_cases e1 : mk = -1
  · rw [if_pos e1]
    unfold b_X11_makes_11
    rw [v_r7 R, Option.bind_some, v_g R, Option.bind_some, w3, show s_i (sA h A) 107 (11 : Int32) (nI th) = _ from v_s7 (k := 11) R (by omega), Option.bind_some]
    exact ⟨_, fin _ (fun r k hk => u2 (by omega)) u2s⟩
  · rw [if_neg e1]
    have : mk = nI th := by have := ho.1; unfold mkL at this; rw [if_neg e1] at this; exact this
    exact ⟨A, fin A (fun _ _ _ => rfl) (by rw [d6, this])⟩
end
