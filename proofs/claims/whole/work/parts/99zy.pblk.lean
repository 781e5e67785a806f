/-! ===== the two readers together: a statement, a block ===== -/
/-- both have found the same fault, and say so -/
def BF (Z Z2 : Nat → Nat → Int32) (B : Nat) (h g : AH) (tp : Nat → Nat) (n : Nat) (rC rR : Option (Int32 × AH)) : Prop :=
  ∃ K p A' A2', rC = some (0, sA h A') ∧ CF Z B A' K p ∧ rR = some (0, sA g A2') ∧ FT Z2 tp n K p A2'
section
variable {Z Z2 : Nat → Nat → Int32} {tp : Nat → Nat} {n cnt B : Nat} {h g : AH} {A A2 A' A2' : Nat → Nat → Int32} {j0 tc j th hd ne st b p tc' j' hd' st' a : Nat} {E E' : List Ent} {AL AL' : List Act} {SL : List Nat} {ow ow' : Nat → Int32} {lb mb mk dn lb' mb' mk' dn' a1 : Int32} {kd : Nat → Int32} {rc rcC : Nat → Int32 → AH → Option (Int32 × AH)} {x : Ent} {rC rR : Option (Int32 × AH)} {sf : List Nat} {hq : Nat → Prop}
theorem jg_bz (G : JG Z Z2 B h g tp n cnt j0 th ne SL kd tc st E AL dn sf hq rC rR) : JG Z Z2 B h g tp n cnt j0 th ne SL kd tc st E AL dn sf hq (rC.bind fun q2 => ok_z q2.1 q2.2) rR := by
  obtain ⟨A', A2', tc', j', hd', st', E', AL', ow', lb', mb', mk', dn', e1, r⟩ := G
  exact ⟨A', A2', tc', j', hd', st', E', AL', ow', lb', mb', mk', dn', bz e1 (Or.inr rfl), r⟩
theorem jf_bz (G : JF Z Z2 B h g tp n rC rR) : JF Z Z2 B h g tp n (rC.bind fun q2 => ok_z q2.1 q2.2) rR := by
  obtain ⟨K, p, A', A2', v, e1, r⟩ := G
  exact ⟨K, p, A', A2', v, bz e1 (Or.inl rfl), r⟩
theorem jg_tr (X : JE ne tc st E AL dn tc' st' E' AL' dn') (hs : sf ≠ []) (G : JG Z Z2 B h g tp n cnt j0 th ne SL kd (tc' + 1) st' E' AL' dn' sf hq rC rR) : JG Z Z2 B h g tp n cnt j0 th ne SL kd (tc + 1) st E AL dn sf hq rC rR := by
  obtain ⟨⟨a1, a2, a3⟩, ⟨X, rfl, hX⟩, ⟨Y, rfl⟩, hd⟩ := X
  obtain ⟨A', A2', tc2, j2, hd2, st2, E2, AL2, ow2, lb2, mb2, mk2, dn2, e1, e2, J, T, hh, ⟨b1, b2, b3⟩, ⟨X2, rfl, hX2⟩, ⟨Y2, rfl⟩, hd2'⟩ := G
  refine ⟨A', A2', tc2, j2, hd2, st2, _, _, ow2, lb2, mb2, mk2, dn2, e1, e2, J, T, ⟨hh.1, fun z => absurd z hs⟩, ⟨by omega, by omega, by omega⟩, ⟨X ++ X2, by rw [List.append_assoc], fun x hx => ?_⟩, ⟨Y ++ Y2, by rw [List.append_assoc]⟩, fun h0 => (hd2' h0).trans (hd h0)⟩
  rcases List.mem_append.mp hx with hx | hx
  · exact hX x hx
  · exact hX2 x hx
/-- the reference's choice -/
theorem r_st (R : RZ g) (T : RT Z2 tp n A2 j) : f_X11_statement rc 102 (sA g A2) = if (tk tp n j).1 / 100 = 4 ∨ (tk tp n j).1 / 100 = 3 ∨ (tk tp n j).1 = 204 ∨ (tk tp n j).1 = 205 ∨ (tk tp n j).1 = 206 ∨ (tk tp n j).1 = 207 then b_X11_statement_79 rc 102 (nI (tk tp n j).2.1) (sA g A2) else b_X11_statement_71 rc 102 (nI (tk tp n j).2.1) (sA g A2) := by
  have C := cd_3 (tk_code (tp := tp) (n := n) (j := j))
  have b61 : b_X11_statement_61 rc 102 (nI (tk tp n j).2.1) (sA g A2) = b_X11_statement_79 rc 102 (nI (tk tp n j).2.1) (sA g A2) := by
    unfold b_X11_statement_61 b_X11_statement_66
    rw [if_neg n10]
  have k204 : nI (tk tp n j).1 = (204 : Int32) ↔ (tk tp n j).1 = 204 := nI_eq (b := 204) (by omega) (by omega)
  have k205 : nI (tk tp n j).1 = (205 : Int32) ↔ (tk tp n j).1 = 205 := nI_eq (b := 205) (by omega) (by omega)
  have k206 : nI (tk tp n j).1 = (206 : Int32) ↔ (tk tp n j).1 = 206 := nI_eq (b := 206) (by omega) (by omega)
  have k207 : nI (tk tp n j).1 = (207 : Int32) ↔ (tk tp n j).1 = 207 := nI_eq (b := 207) (by omega) (by omega)
  unfold f_X11_statement b_X11_statement_0
  rw [v_g R, Option.bind_some, v_v R, Option.bind_some, w_kind R T, Option.bind_some, T.1.2.2.2]
  by_cases c4 : (tk tp n j).1 / 100 = 4
  · rw [if_pos (kf_p (v := 4) c4 rfl), if_pos (Or.inl c4), b61]
  · rw [if_neg (kf_n (v := 4) c4 rfl (by omega) (by omega))]
    unfold b_X11_statement_13
    rw [v_v R, Option.bind_some, w_kind R T, Option.bind_some]
    by_cases c3 : (tk tp n j).1 / 100 = 3
    · rw [if_pos (kf_p (v := 3) c3 rfl), if_pos (Or.inr (Or.inl c3)), b61]
    · rw [if_neg (kf_n (v := 3) c3 rfl (by omega) (by omega))]
      unfold b_X11_statement_21
      rw [v_g R, Option.bind_some, T.1.2.2.1]
      by_cases d4 : (tk tp n j).1 = 204
      · rw [if_pos (k204.mpr d4), if_pos (by omega), b61]
      · rw [if_neg (fun z => d4 (k204.mp z))]
        unfold b_X11_statement_31
        rw [v_g R, Option.bind_some, T.1.2.2.1]
        by_cases d5 : (tk tp n j).1 = 205
        · rw [if_pos (k205.mpr d5), if_pos (by omega), b61]
        · rw [if_neg (fun z => d5 (k205.mp z))]
          unfold b_X11_statement_41
          rw [v_g R, Option.bind_some, T.1.2.2.1]
          by_cases d6 : (tk tp n j).1 = 206
          · rw [if_pos (k206.mpr d6), if_pos (by omega), b61]
          · rw [if_neg (fun z => d6 (k206.mp z))]
            unfold b_X11_statement_51
            rw [v_g R, Option.bind_some, T.1.2.2.1]
            by_cases d7 : (tk tp n j).1 = 207
            · rw [if_pos (k207.mpr d7), if_pos (by omega), b61]
            · rw [if_neg (fun z => d7 (k207.mp z)), if_neg (by omega)]
              unfold b_X11_statement_65 b_X11_statement_66
              rw [if_pos rfl]
theorem j_stat (Q : CQ h B) (R : RZ g) (J : JP Z Z2 B tp n cnt j0 th ne SL kd A A2 tc j hd st E AL ow lb mb mk dn) (hT : TLn tp n j0 tc = RN SL E) (n3 : ne ≤ 3) (K : ne < 3 → st < 20 → BLK Z Z2 B h g tp n cnt j0 th (ne + 1) SL kd (st + 1) rcC rc) :
    JG Z Z2 B h g tp n cnt j0 th ne SL kd tc st E AL dn [] (fun _ => True) (f_X6_readStatement rcC 68 (sA h A)) (f_X11_statement rc 102 (sA g A2)) ∨ JF Z Z2 B h g tp n (f_X6_readStatement rcC 68 (sA h A)) (f_X11_statement rc 102 (sA g A2)) := by
  have S := J.1
  have S2 := J.2.1
  have C := cd_3 (tk_code (tp := tp) (n := n) (j := j))
  have t6 := ct_6 S
  have t7 := ct_7 S
  have t8 := ct_8 S
  have t9 := ct_9 S
  have t10 := ct_10 S
  have t11 := ct_11 S
  have t12 := ct_12 S
  rw [r_st R S2.1]
  unfold f_X6_readStatement b_X6_readStatement_0
  rw [q_68 Q, Option.bind_some, c_k Q, Option.bind_some]
  by_cases d4 : (tk tp n j).1 = 204
  · rw [if_pos (t6.mpr d4), if_pos (by omega)]
    unfold b_X6_readStatement_58
    rw [q_v Q.1.1, Option.bind_some]
    exact (j_mon (rc := rc) (op := 3) (a1 := 1) Q R J hT d4 (Or.inl ⟨rfl, rfl, rfl⟩)).imp jg_bz jf_bz
  · rw [if_neg (fun z => d4 (t6.mp z))]
    by_cases d5 : (tk tp n j).1 = 205
    · rw [if_pos (t7.mpr d5), if_pos (by omega)]
      unfold b_X6_readStatement_64
      rw [q_v Q.1.1, Option.bind_some]
      exact (j_mon (rc := rc) (op := 4) (a1 := 0) Q R J hT d5 (Or.inr ⟨rfl, rfl, rfl⟩)).imp jg_bz jf_bz
    · rw [if_neg (fun z => d5 (t7.mp z))]
      by_cases d6 : (tk tp n j).1 = 206
      · rw [if_pos (t8.mpr d6), if_pos (by omega)]
        unfold b_X6_readStatement_70
        rw [q_v Q.1.1, Option.bind_some]
        exact (j_done (rc := rc) Q R J hT d6).imp jg_bz jf_bz
      · rw [if_neg (fun z => d6 (t8.mp z))]
        by_cases d7 : (tk tp n j).1 = 207
        · rw [if_pos (t9.mpr d7), if_pos (by omega)]
          unfold b_X6_readStatement_75
          rw [q_v Q.1.1, Option.bind_some]
          exact (j_if (rc := rc) Q R J hT d7 n3 K).imp jg_bz jf_bz
        · rw [if_neg (fun z => d7 (t9.mp z))]
          have bad : ¬ ((tk tp n j).1 / 100 = 4 ∨ (tk tp n j).1 / 100 = 3) → JF Z Z2 B h g tp n (b_X6_readStatement_80 rcC 68 (sA h A)) (if (tk tp n j).1 / 100 = 4 ∨ (tk tp n j).1 / 100 = 3 ∨ (tk tp n j).1 = 204 ∨ (tk tp n j).1 = 205 ∨ (tk tp n j).1 = 206 ∨ (tk tp n j).1 = 207 then b_X11_statement_79 rc 102 (nI (tk tp n j).2.1) (sA g A2) else b_X11_statement_71 rc 102 (nI (tk tp n j).2.1) (sA g A2)) := fun c => by
            rw [if_neg (by omega)]
            obtain ⟨A5, f1, f2⟩ := c_rt Q S
            obtain ⟨B3, m1, m2⟩ := s_bad1 R S2
            rw [v_g R, Option.bind_some, S2.1.1.2.2.2] at m1
            refine ⟨1, _, A5, B3, 0, ?_, f2, m1, Or.inl rfl, m2⟩
            unfold b_X6_readStatement_80
            rw [q_v Q.1.1, Option.bind_some]
            exact bz f1 (Or.inl rfl)
          by_cases d8 : (tk tp n j).1 = 208
          · rw [if_pos (t10.mpr d8)]
            exact Or.inr (bad (by omega))
          · rw [if_neg (fun z => d8 (t10.mp z))]
            by_cases c3 : (tk tp n j).1 / 100 = 3
            · rw [if_pos (t11.mpr c3), if_pos (Or.inr (Or.inl c3))]
              unfold b_X6_readStatement_53
              rw [q_v Q.1.1, Option.bind_some]
              exact (j_write (rc := rc) Q R J hT c3).imp jg_bz jf_bz
            · rw [if_neg (fun z => c3 (t11.mp z))]
              by_cases c4 : (tk tp n j).1 / 100 = 4
              · rw [if_pos (t12.mpr c4), if_pos (Or.inl c4)]
                unfold b_X6_readStatement_48
                rw [q_v Q.1.1, Option.bind_some]
                exact (j_local (rc := rc) Q R J hT c4).imp jg_bz jf_bz
              · rw [if_neg (fun z => c4 (t12.mp z))]
                exact Or.inr (bad (by omega))
/-- at a block's SHUT -/
theorem blk_end (Q : CQ h B) (R : RZ g) (J : JP Z Z2 B tp n cnt j0 th ne SL kd A A2 tc j hd st E AL ow lb mb mk dn) (hT : TLn tp n j0 tc = RN SL E) (b3 : tc + 1 ≤ 9 * st + 3 * SL.length) (ha : a1 = -1 ∨ a1 = nI a ∧ a < 4) (hc : (tk tp n j).1 = 706) :
    JG Z Z2 B h g tp n cnt j0 th ne SL kd (tc + 1) st E AL dn [706] (fun x => a1 = -1 ∨ x = a) (b_X6_readBlock_47 rcC 68 a1 (sA h A)) (b_X11_block_38 rc 102 a1 (sA g A2)) ∨ BF Z Z2 B h g tp n (b_X6_readBlock_47 rcC 68 a1 (sA h A)) (b_X11_block_38 rc 102 a1 (sA g A2)) := by
  obtain ⟨S, S2, I, V, ⟨b1, b2, -⟩, NP, SLb⟩ := J
  have bC := S2.2.2.2.2.2.2.2.2.2
  have hd4 : hd < 4 := bC.2.2.2.2.2.1
  have s20 : st ≤ 20 := bC.2.2.2.1
  have sl4 : SL.length ≤ 4 := bC.2.1
  have jj := cs_j S (by omega)
  have hSL : 0 < SL.length := by omega
  have ej : j = j0 + tc := S2.2.2.2.2.2.2.2.2.1.2.1 hSL
  have hn := S2.1.2.1
  have P := tk_pl (tp := tp) (n := n) (j := j) hn
  have good : (a1 = -1 ∨ hd = a) → JG Z Z2 B h g tp n cnt j0 th ne SL kd (tc + 1) st E AL dn [706] (fun x => a1 = -1 ∨ x = a) (b_X6_readBlock_73 rcC 68 (sA h A)) (b_X11_block_60 rc 102 (sA g A2)) := fun hh => by
    obtain ⟨z0, A7, z3, z4, -⟩ | ⟨z0, -⟩ := c_pass (k := 21) Q S (by omega) (by omega)
    · obtain ⟨B3, u1, u2', u3⟩ := r_next R S2 hSL (by omega)
      refine ⟨A7, B3, tc + 1, j + 1, hd, st, E, AL, ow, lb, mb, mk, dn, ?_, ?_, ⟨z4, u2', I, V, ⟨b1, b2, b3⟩, NP, SLb⟩, ?_, ⟨hh, fun z => by cases z⟩, ⟨Nat.le_refl _, Nat.le_refl _, Nat.le_refl _⟩, ⟨[], (List.append_nil _).symm, fun x hx => by cases hx⟩, ⟨[], (List.append_nil _).symm⟩, fun _ => rfl⟩
      · unfold b_X6_readBlock_73
        rw [q_v Q.1.1, Option.bind_some]
        exact bz z3 (Or.inr rfl)
      · unfold b_X11_block_60
        rw [v_v R, Option.bind_some, u1, Option.bind_some, v_g R, Option.bind_some, u2'.2.1.1, if_pos rfl]
        exact ok_z_1
      · rw [tln_s, hT, ← ej, hc]
    · exact absurd ((ckd_al2 (tk_code (tp := tp) (n := n) (j := j))).2.2.2.2.2.2.2.2.2.2.mpr hc) z0
  unfold b_X6_readBlock_47 b_X11_block_38
  by_cases e1 : a1 = -1
  · rw [if_pos e1, if_pos e1]
    exact Or.inl (good (Or.inl e1))
  · rw [if_neg e1, if_neg e1]
    unfold b_X6_readBlock_52 b_X11_block_43
    rw [q_i Q.1.1, Option.bind_some, v_g R, Option.bind_some, S.2.1.2.1, S2.2.1.2.2.2.1]
    obtain ⟨e2, a4⟩ : a1 = nI a ∧ a < 4 := ha.resolve_left e1
    have ee : nI hd = a1 ↔ hd = a := by rw [e2]; exact nI_eq (by omega) (by omega)
    by_cases e3 : hd = a
    · rw [if_pos (ee.mpr e3), if_pos (ee.mpr e3)]
      exact Or.inl (good (Or.inr e3))
    · rw [if_neg (fun z => e3 (ee.mp z)), if_neg (fun z => e3 (ee.mp z))]
      right
      obtain ⟨A3, f1, f2⟩ := c_refuse (A := A) (k := 5) (p := (tk tp n j).2.1) Q S.1.2.2.2.2.2.2
      obtain ⟨B3, r1, r2, -⟩ := s_bad (k := 5) (q := (tk tp n j).2.1) R S2 (by omega) (by omega) (by omega)
      obtain ⟨B4, r3, r4, r5⟩ := w_next R r2
      refine ⟨5, _, A3, B4, ?_, f2, ?_, ⟨by omega, _, _, r4⟩⟩
      · unfold b_X6_readBlock_60
        rw [q_68 Q, Option.bind_some, c_pl Q, Option.bind_some, (c_sv S).2.2, q_v Q.1.1, Option.bind_some]
        exact bz (v := 0) f1 (Or.inl rfl)
      · unfold b_X11_block_51
        rw [v_g R, Option.bind_some, v_v R, Option.bind_some, S2.1.1.2.2.2, show f_X11_bad 102 (5 : Int32) (nI (tk tp n j).2.1) (sA g A2) = _ from r1, Option.bind_some]
        unfold b_X11_block_60
        rw [v_v R, Option.bind_some, r3, Option.bind_some, v_g R, Option.bind_some]
        have e5 : B4 102 11 = nI 5 := by
          obtain ⟨z, -⟩ | z := r4.2.1
          · exact absurd z (by omega)
          · exact z.1
        rw [e5, if_neg (show ¬ nI 5 = 0 by decide)]
        exact ok_z_0
theorem ft_n0 {K p : Nat} (F : FT Z2 tp n K p A) : ¬ A 102 11 = 0 := by
  obtain ⟨h0, j, b, W⟩ := F
  obtain ⟨z, -⟩ | z := W.2.1
  · omega
  · intro e
    obtain ⟨z1, -, z2, z3, -⟩ := z
    rw [z1] at e
    exact absurd ((nI_eq (b := 0) (by omega) (by omega)).mp e) (by omega)
theorem blk_mono {s0 s1 : Nat} (h0 : s0 ≤ s1) (K : BLK Z Z2 B h g tp n cnt j0 th ne SL kd s0 rcC rc) : BLK Z Z2 B h g tp n cnt j0 th ne SL kd s1 rcC rc :=
  fun A A2 tc j hd st E AL ow lb mb mk dn J T hs hb => K A A2 tc j hd st E AL ow lb mb mk dn J T (by omega) hb
theorem blk_loop (Q : CQ h B) (R : RZ g) (n3 : ne ≤ 3) (ha : a1 = -1 ∨ a1 = nI a ∧ a < 4) (K : ne < 3 → BLK Z Z2 B h g tp n cnt j0 th (ne + 1) SL kd 0 rcC rc) : ∀ r f1 f2 m A A2 tc j hd st E AL ow lb mb mk dn, 20 - st < r → r ≤ f1 → r ≤ f2 → m ≤ st → JP Z Z2 B tp n cnt j0 th ne SL kd A A2 tc j hd st E AL ow lb mb mk dn → TLn tp n j0 tc = RN SL E → tc + 1 ≤ 9 * st + 3 * SL.length →
    JG Z Z2 B h g tp n cnt j0 th ne SL kd (tc + 1) st E AL dn [706] (fun x => a1 = -1 ∨ x = a) (l_X6_readBlock_13 rcC f1 68 a1 (nI m) (sA h A)) (l_X11_block_12 rc f2 102 a1 (sA g A2)) ∨ BF Z Z2 B h g tp n (l_X6_readBlock_13 rcC f1 68 a1 (nI m) (sA h A)) (l_X11_block_12 rc f2 102 a1 (sA g A2)) := by
  intro r
  induction r with
  | zero => intro f1 f2 m A A2 tc j hd st E AL ow lb mb mk dn h1; omega
  | succ r ih =>
    intro f1 f2 m A A2 tc j hd st E AL ow lb mb mk dn h1 h2 h3 hm J hT hb
    obtain ⟨f1, rfl⟩ : ∃ f, f1 = f + 1 := ⟨f1 - 1, by omega⟩
    obtain ⟨f2, rfl⟩ : ∃ f, f2 = f + 1 := ⟨f2 - 1, by omega⟩
    have S := J.1
    have S2 := J.2.1
    have C := cd_3 (tk_code (tp := tp) (n := n) (j := j))
    have s20 : st ≤ 20 := S2.2.2.2.2.2.2.2.2.2.2.2.2.1
    show JG Z Z2 B h g tp n cnt j0 th ne SL kd (tc + 1) st E AL dn [706] (fun x => a1 = -1 ∨ x = a) (b_X6_readBlock_13 rcC (l_X6_readBlock_13 rcC f1) 68 a1 (nI m) (sA h A)) (b_X11_block_12 rc (l_X11_block_12 rc f2) 102 a1 (sA g A2)) ∨ BF Z Z2 B h g tp n (b_X6_readBlock_13 rcC (l_X6_readBlock_13 rcC f1) 68 a1 (nI m) (sA h A)) (b_X11_block_12 rc (l_X11_block_12 rc f2) 102 a1 (sA g A2))
    unfold b_X6_readBlock_13 b_X6_readBlock_20 b_X11_block_12
    rw [if_neg (show ¬ (1000 : Int32) ≤ nI m from Int32.not_le.mpr (show nI m < (1000 : Int32) from nI_lt (b := 1000) (by omega) (by omega))), q_68 Q, Option.bind_some, c_k Q, Option.bind_some, v_g R, Option.bind_some, S2.1.1.2.2.1]
    by_cases c : (tk tp n j).1 = 706
    · rw [if_pos ((ct_21 S).mpr c), if_pos (show nI (tk tp n j).1 = (706 : Int32) by rw [c]; rfl)]
      exact blk_end Q R J hT hb ha c
    · rw [if_neg (fun z => c ((ct_21 S).mp z)), if_neg (show ¬ nI (tk tp n j).1 = (706 : Int32) from fun z => c ((nI_eq (b := 706) (by omega) (by omega)).mp z))]
      unfold b_X6_readBlock_32 b_X11_block_22
      rw [q_v Q.1.1, Option.bind_some, v_v R, Option.bind_some]
      obtain ⟨A', A2', tc', j', hd', st', E', AL', ow', lb', mb', mk', dn', e1, e2, J', T', hh, X⟩ | ⟨K0, p0, A', A2', v, e1, e2, e3, e4, e5⟩ := j_stat (rc := rc) (rcC := rcC) Q R J hT n3 (fun z _ => blk_mono (Nat.zero_le _) (K z))
      · have lt := hh.2 rfl
        have s20' : st' ≤ 20 := J'.2.1.2.2.2.2.2.2.2.2.2.2.2.2.1
        have X3 := X.1.2.2
        rw [List.append_nil] at T'
        rw [e1, Option.bind_some, if_neg n10, e2, Option.bind_some, if_neg n10]
        unfold b_X6_readBlock_41 b_X11_block_29
        rw [da, v_g R, Option.bind_some, J'.2.1.2.1.1, if_pos rfl]
        exact (ih f1 f2 (m + 1) A' A2' tc' j' hd' st' E' AL' ow' lb' mb' mk' dn' (by omega) (by omega) (by omega) (by omega) J' T' (by omega)).imp (jg_tr X (by simp)) id
      · right
        rw [e1, Option.bind_some, if_pos rfl, e3, Option.bind_some]
        refine ⟨K0, p0, A', A2', ok_z_0, e2, ?_, e5⟩
        rcases e4 with rfl | rfl
        · rw [if_pos rfl]; exact ok_z_0
        · rw [if_neg n10]
          unfold b_X11_block_29
          rw [v_g R, Option.bind_some, if_neg (ft_n0 e5)]
          exact ok_z_0
theorem blk1 (Q : CQ h B) (R : RZ g) (n3 : ne ≤ 3) (hj : j0 ≤ 2000) (ha : a1 = -1 ∨ a1 = nI a ∧ a < 4) (K : ne < 3 → BLK Z Z2 B h g tp n cnt j0 th (ne + 1) SL kd 0 rcC rc) (J : JP Z Z2 B tp n cnt j0 th ne SL kd A A2 tc j hd st E AL ow lb mb mk dn) (hT : TLn tp n j0 tc ++ [705] = RN SL E) (hb : tc + 2 ≤ 9 * st + 3 * SL.length) :
    JG Z Z2 B h g tp n cnt j0 th ne SL kd (tc + 2) st E AL dn [706] (fun x => a1 = -1 ∨ x = a) (f_X6_readBlock_o rcC 68 a1 (sA h A)) (f_X11_block_o rc 102 a1 (sA g A2)) ∨ BF Z Z2 B h g tp n (f_X6_readBlock_o rcC 68 a1 (sA h A)) (f_X11_block_o rc 102 a1 (sA g A2)) := by
  obtain ⟨S, S2, I, V, ⟨b1, b2, b3⟩, NP, SLb⟩ := J
  have bC := S2.2.2.2.2.2.2.2.2.2
  have s20 : st ≤ 20 := bC.2.2.2.1
  have sl4 : SL.length ≤ 4 := bC.2.1
  have hSL : 0 < SL.length := by omega
  have ej : j = j0 + tc := S2.2.2.2.2.2.2.2.2.1.2.1 hSL
  have C := tk_code (tp := tp) (n := n) (j := j)
  unfold f_X6_readBlock_o b_X6_readBlock_0 f_X11_block_o b_X11_block_0
  rw [q_v Q.1.1, Option.bind_some, v_v R, Option.bind_some]
  obtain ⟨z0, A7, z3, z4, -⟩ | ⟨z0, A7, z3, z4⟩ := c_pass (k := 20) Q S (by omega) (by omega)
  · have e705 := (ckd_al2 C).2.2.2.2.2.2.2.2.2.1.mp z0
    obtain ⟨-, B5, s1, s2, -⟩ | ⟨s0, -⟩ := s_need (c := 705) R S2 hSL (by omega) (by omega)
    · rw [show f_X6_pass 68 (20 : Int32) (sA h A) = _ from z3, Option.bind_some, if_neg n10, show f_X11_need 102 (705 : Int32) (sA g A2) = _ from s1, Option.bind_some, if_neg n10]
      unfold b_X6_readBlock_11
      exact blk_loop Q R n3 ha K 21 fu_ fu_ 0 A7 B5 (tc + 1) (j + 1) hd st E AL ow lb mb mk dn (by omega) (by unfold fu_; omega) (by unfold fu_; omega) (by omega) ⟨z4, s2, I, V, ⟨b1, b2, by omega⟩, NP, SLb⟩ (by rw [tln_s, ← ej, e705, hT]) (by omega)
    · exact absurd e705 s0
  · right
    obtain ⟨s0, -⟩ | ⟨s0, B5, s1, s2⟩ := s_need (c := 705) R S2 hSL (by omega) (by omega)
    · exact absurd ((ckd_al2 C).2.2.2.2.2.2.2.2.2.1.mpr s0) z0
    · rw [show f_X6_pass 68 (20 : Int32) (sA h A) = _ from z3, Option.bind_some, if_pos rfl, show f_X11_need 102 (705 : Int32) (sA g A2) = _ from s1, Option.bind_some, if_pos rfl]
      exact ⟨1, _, A7, B5, ok_z_0, z4, ok_z_0, s2⟩
/-- the block lemma -/
theorem blk (Q : CQ h B) (R : RZ g) (hj : j0 ≤ 2000) : ∀ k ne d d', ne + k = 3 → k < d → k < d' → BLK Z Z2 B h g tp n cnt j0 th ne SL kd 0 (f_X6_readBlock d) (f_X11_block d') := by
  intro k
  induction k with
  | zero =>
    intro ne d d' h1 h2 h3 A A2 tc j hd st E AL ow lb mb mk dn J hT _ hb
    obtain ⟨d, rfl⟩ : ∃ f, d = f + 1 := ⟨d - 1, by omega⟩
    obtain ⟨d', rfl⟩ : ∃ f, d' = f + 1 := ⟨d' - 1, by omega⟩
    have hd4 : hd < 4 := J.2.1.2.2.2.2.2.2.2.2.2.2.2.2.2.2.1
    refine (blk1 (rcC := f_X6_readBlock d) (rc := f_X11_block d') (a1 := nI hd) (a := hd) Q R (by omega) hj (Or.inr ⟨rfl, hd4⟩) (fun z => absurd z (by omega)) J hT hb).imp (fun G => ?_) id
    obtain ⟨A', A2', tc', j', hd', st', E', AL', ow', lb', mb', mk', dn', e1, e2, J', T', hh, X⟩ := G
    exact ⟨A', A2', tc', j', hd', st', E', AL', ow', lb', mb', mk', dn', e1, e2, J', T', ⟨hh.1.resolve_left (nI_ne1 (by omega)), hh.2⟩, X⟩
  | succ k ih =>
    intro ne d d' h1 h2 h3 A A2 tc j hd st E AL ow lb mb mk dn J hT _ hb
    obtain ⟨d, rfl⟩ : ∃ f, d = f + 1 := ⟨d - 1, by omega⟩
    obtain ⟨d', rfl⟩ : ∃ f, d' = f + 1 := ⟨d' - 1, by omega⟩
    have hd4 : hd < 4 := J.2.1.2.2.2.2.2.2.2.2.2.2.2.2.2.2.1
    refine (blk1 (rcC := f_X6_readBlock d) (rc := f_X11_block d') (a1 := nI hd) (a := hd) Q R (by omega) hj (Or.inr ⟨rfl, hd4⟩) (fun z => ih (ne + 1) d d' (by omega) (by omega) (by omega)) J hT hb).imp (fun G => ?_) id
    obtain ⟨A', A2', tc', j', hd', st', E', AL', ow', lb', mb', mk', dn', e1, e2, J', T', hh, X⟩ := G
    exact ⟨A', A2', tc', j', hd', st', E', AL', ow', lb', mb', mk', dn', e1, e2, J', T', ⟨hh.1.resolve_left (nI_ne1 (by omega)), hh.2⟩, X⟩
/-- a thread's block -/
theorem blkT {d d' : Nat} (Q : CQ h B) (R : RZ g) (hj : j0 ≤ 2000) (h1 : 3 < d) (h2 : 3 < d') (J : JP Z Z2 B tp n cnt j0 th 0 SL kd A A2 tc j hd st E AL ow lb mb mk dn) (hT : TLn tp n j0 tc ++ [705] = RN SL E) (hb : tc + 2 ≤ 9 * st + 3 * SL.length) :
    JG Z Z2 B h g tp n cnt j0 th 0 SL kd (tc + 2) st E AL dn [706] (fun _ => True) (f_X6_readBlock d 68 (-1) (sA h A)) (f_X11_block d' 102 (-1) (sA g A2)) ∨ BF Z Z2 B h g tp n (f_X6_readBlock d 68 (-1) (sA h A)) (f_X11_block d' 102 (-1) (sA g A2)) := by
  obtain ⟨d, rfl⟩ : ∃ f, d = f + 1 := ⟨d - 1, by omega⟩
  obtain ⟨d', rfl⟩ : ∃ f, d' = f + 1 := ⟨d' - 1, by omega⟩
  refine (blk1 (rcC := f_X6_readBlock d) (rc := f_X11_block d') (a1 := -1) (a := 0) Q R (by omega) hj (Or.inl rfl) (fun z => blk Q R hj 2 1 d d' (by omega) (by omega) (by omega)) J hT hb).imp (fun G => ?_) id
  obtain ⟨A', A2', tc', j', hd', st', E', AL', ow', lb', mb', mk', dn', e1, e2, J', T', hh, X⟩ := G
  exact ⟨A', A2', tc', j', hd', st', E', AL', ow', lb', mb', mk', dn', e1, e2, J', T', ⟨trivial, hh.2⟩, X⟩
end
