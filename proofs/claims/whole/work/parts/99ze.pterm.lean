/-! ===== the class's terms ===== -/
section
variable {Z : Nat → Nat → Int32} {tp : Nat → Nat} {n cnt B : Nat} {h : AH} {A A' : Nat → Nat → Int32} {j th hd ne st : Nat} {E : List Ent} {AL : List Act} {SL : List Nat} {ow : Nat → Int32} {lb mb mk dn : Int32} {kd : Nat → Int32}
/-- readTerm -/
theorem c_term (Q : CQ h B) (S : CS Z tp n cnt B A j th hd ne st E AL SL ow lb mb mk dn kd) (I : lbI ow lb) (hj : j + 1 < 2 ^ 20) :
    ((tk tp n j).1 / 100 = 6 ∧ ∃ A', f_X6_readTerm 68 (sA h A) = some (1, sA h A') ∧ CS Z tp n cnt B A' (j + 1) th hd ne st E AL SL ow lb mb mk dn kd ∧ A' 68 9 = -1 ∧ A' 68 10 = nI ((tk tp n j).1 % 100)) ∨
    (((tk tp n j).1 / 100 = 4 ∧ owL ow ((tk tp n j).1 % 100) th ((tk tp n j).1 % 100) = nI th) ∧ ∃ A', f_X6_readTerm 68 (sA h A) = some (1, sA h A') ∧ CS Z tp n cnt B A' (j + 1) th hd ne st E AL SL (owL ow ((tk tp n j).1 % 100) th) (lbL lb ((tk tp n j).1 % 100)) mb mk dn kd ∧ A' 68 9 = nI ((tk tp n j).1 % 100) ∧ A' 68 10 = -1) ∨
    (((tk tp n j).1 / 100 = 4 ∧ ¬ owL ow ((tk tp n j).1 % 100) th ((tk tp n j).1 % 100) = nI th) ∧ ∃ A', f_X6_readTerm 68 (sA h A) = some (0, sA h A') ∧ CF Z B A' 3 (tk tp n j).2.1) ∨
    (((tk tp n j).1 / 100 ≠ 4 ∧ (tk tp n j).1 / 100 ≠ 6) ∧ ∃ A', f_X6_readTerm 68 (sA h A) = some (0, sA h A') ∧ CF Z B A' 1 (tk tp n j).2.1) := by
  have C := tk_code (tp := tp) (n := n) (j := j)
  have S1 := cs_68 (k := 10) (v := -1) Q (cs_68 (k := 9) (v := -1) Q S (by omega)) (by omega)
  have t14 := ct_14 S1
  have t12 := ct_12 S1
  unfold f_X6_readTerm b_X6_readTerm_0
  rw [q_p Q.1.1, Option.bind_some, q_p Q.1.1, Option.bind_some, q_68 Q, Option.bind_some, c_k Q, Option.bind_some]
  by_cases c6 : (tk tp n j).1 / 100 = 6
  · refine Or.inl ⟨c6, ?_⟩
    rw [if_pos (t14.mpr c6)]
    unfold b_X6_readTerm_22
    rw [q_68 Q, Option.bind_some, c_w Q, Option.bind_some, c_wh S1 (cw1_w (by omega) (by omega)), q_p Q.1.1, Option.bind_some]
    have S2 := cs_68 (k := 10) (v := nI ((tk tp n j).1 % 100)) Q S1 (by omega)
    obtain ⟨A', x1, x2, x3⟩ := c_adv Q S2 hj
    unfold b_X6_readTerm_73
    rw [q_68 Q, Option.bind_some, q_v Q.2.2.2.2.2.2.1, Option.bind_some, x1, Option.bind_some]
    refine ⟨A', ok_z_1, x2, ?_, ?_⟩
    · rw [x3 _ _ (by omega), u2 (by omega), u2 (by omega), u2s]
    · rw [x3 _ _ (by omega), u2s]
  · rw [if_neg (fun x => c6 (t14.mp x))]
    unfold b_X6_readTerm_36
    rw [q_68 Q, Option.bind_some, c_k Q, Option.bind_some]
    by_cases c4 : (tk tp n j).1 / 100 = 4
    · rw [if_pos (t12.mpr c4)]
      unfold b_X6_readTerm_53
      rw [q_v Q.1.1, Option.bind_some]
      obtain ⟨o, A1, x1, x2, x3⟩ | ⟨o, A1, x1, x2⟩ := c_loc Q S1 I ((cd_3 C).2.1 c4) (cw1_w (by omega) (by omega))
      · refine Or.inr (Or.inl ⟨⟨c4, o⟩, ?_⟩)
        rw [x1, Option.bind_some, if_neg n10]
        unfold b_X6_readTerm_62
        rw [q_68 Q, Option.bind_some, c_w Q, Option.bind_some, c_wh x2 (cw1_w (by omega) (by omega)), q_p Q.1.1, Option.bind_some]
        obtain ⟨A', y1, y2, y3⟩ := c_adv Q (cs_68 (k := 9) (v := nI ((tk tp n j).1 % 100)) Q x2 (by omega)) hj
        unfold b_X6_readTerm_73
        rw [q_68 Q, Option.bind_some, q_v Q.2.2.2.2.2.2.1, Option.bind_some, y1, Option.bind_some]
        refine ⟨A', ok_z_1, y2, ?_, ?_⟩
        · rw [y3 _ _ (by omega), u2s]
        · rw [y3 _ _ (by omega), u2 (by omega), x3, u2s]
      · refine Or.inr (Or.inr (Or.inl ⟨⟨c4, o⟩, ?_⟩))
        rw [x1, Option.bind_some, if_pos rfl]
        exact ⟨A1, ok_z_0, x2⟩
    · refine Or.inr (Or.inr (Or.inr ⟨⟨c4, c6⟩, ?_⟩))
      rw [if_neg (fun x => c4 (t12.mp x))]
      obtain ⟨A1, x1, x2⟩ := c_rt Q S1
      unfold b_X6_readTerm_48
      rw [q_v Q.1.1, Option.bind_some, x1, Option.bind_some]
      exact ⟨A1, ok_z_0, x2⟩
/-- readPlus after a digit, or where no plus stands -/
theorem c_plus0 {b d : Int32} (Q : CQ h B) (S : CS Z tp n cnt B A j th hd ne st E AL SL ow lb mb mk dn kd) (h9 : A 68 9 = b) (hb : b = -1 ∨ (tk tp n j).1 ≠ 704) : f_X6_readPlus 68 (sA h A) = some (1, sA h A) := by
  have C := tk_code (tp := tp) (n := n) (j := j)
  have t18 := ct_18 S
  unfold f_X6_readPlus b_X6_readPlus_0
  rw [q_i Q.1.1, Option.bind_some, h9]
  by_cases e : b = -1
  · rw [if_pos e]
    exact ok_z_1
  · rw [if_neg e]
    unfold b_X6_readPlus_8
    rw [q_68 Q, Option.bind_some, c_k Q, Option.bind_some, if_neg (fun x => (hb.resolve_left e) (t18.mp x))]
    exact ok_z_1
theorem c_plus1 {l : Nat} (Q : CQ h B) (S : CS Z tp n cnt B A j th hd ne st E AL SL ow lb mb mk dn kd) (h9 : A 68 9 = nI l) (hl : l < 5) (ht : (tk tp n j).1 = 704) (hj : j + 2 < 2 ^ 20) :
    ((tk tp n (j + 1)).1 / 100 = 6 ∧ ∃ A', f_X6_readPlus 68 (sA h A) = some (1, sA h A') ∧ CS Z tp n cnt B A' (j + 2) th hd ne st E AL SL ow lb mb mk dn kd ∧ A' 68 9 = nI l ∧ A' 68 10 = nI ((tk tp n (j + 1)).1 % 100)) ∨
    ((tk tp n (j + 1)).1 / 100 ≠ 6 ∧ ∃ A', f_X6_readPlus 68 (sA h A) = some (0, sA h A') ∧ CF Z B A' 1 (tk tp n (j + 1)).2.1) := by
  have C := tk_code (tp := tp) (n := n) (j := j)
  have C1 := tk_code (tp := tp) (n := n) (j := j + 1)
  have t18 := ct_18 S
  unfold f_X6_readPlus b_X6_readPlus_0
  rw [q_i Q.1.1, Option.bind_some, h9, if_neg (show ¬ nI l = -1 from nI_ne1 (by omega))]
  unfold b_X6_readPlus_8
  rw [q_68 Q, Option.bind_some, c_k Q, Option.bind_some, if_pos (t18.mpr ht)]
  unfold b_X6_readPlus_22
  obtain ⟨A1, x1, x2, x3⟩ := c_adv Q S (by omega)
  rw [q_68 Q, Option.bind_some, q_v Q.2.2.2.2.2.2.1, Option.bind_some, x1, Option.bind_some, q_68 Q, Option.bind_some, c_w Q, Option.bind_some, q_p Q.1.1, Option.bind_some, q_v Q.1.1, Option.bind_some]
  have S2 := cs_68 (k := 10) (v := A1 69 1) Q x2 (by omega)
  obtain ⟨c, A2, y1, y2, y3⟩ | ⟨c, A2, y1, y2⟩ := c_pass (k := 14) Q S2 (by omega) (by omega)
  · have c6 := (ckd_al2 C1).2.2.2.1.mp c
    refine Or.inl ⟨c6, A2, ?_, y2, ?_, ?_⟩
    · rw [show f_X6_pass 68 (14 : Int32) (sA h (up_2 A1 68 10 (A1 69 1))) = _ from y1, Option.bind_some]
      exact ok_z_1
    · rw [y3 _ _ (by omega), u2 (by omega), x3 _ _ (by omega), h9]
    · rw [y3 _ _ (by omega), u2s]
      exact c_wh x2 (cw1_w (by omega) (by omega))
  · refine Or.inr ⟨fun x => c ((ckd_al2 C1).2.2.2.1.mpr x), A2, ?_, y2⟩
    rw [show f_X6_pass 68 (14 : Int32) (sA h (up_2 A1 68 10 (A1 69 1))) = _ from y1, Option.bind_some]
    exact ok_z_0
end
