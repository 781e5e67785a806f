/-! ===== the two readers together: the head of a test ===== -/
section
variable {Z Z2 : Nat → Nat → Int32} {tp : Nat → Nat} {n cnt B : Nat} {h g : AH} {A A2 A' A2' : Nat → Nat → Int32} {j0 tc j th hd ne st b p tc' j' hd' : Nat} {E : List Ent} {AL AL' : List Act} {SL : List Nat} {ow ow' : Nat → Int32} {lb mb mk dn lb' mb' mk' dn' : Int32} {kd : Nat → Int32} {rc rcC : Nat → Int32 → AH → Option (Int32 × AH)} {x : Ent} {rC rR : Option (Int32 × AH)}
theorem j_head (Q : CQ h B) (R : RZ g) (J : JP Z Z2 B tp n cnt j0 th ne SL kd A A2 tc j hd st E AL ow lb mb mk dn) (hT : TLn tp n j0 tc = RN SL E) (hc : (tk tp n j).1 = 207) (n3 : ne ≤ 3) :
    (∃ A' B' l d ow' lb', f_X6_readIf rcC 68 (sA h A) = b_X6_readIf_108 rcC 68 (nI l) (nI d) (sA h A') ∧ b_X11_statement_79 rc 102 (nI (tk tp n j).2.1) (sA g A2) = ((b_X11_asks_118 rc 102 (nI (rxl E E.length)) (nI hd) (sA g B')).bind fun q2 => ok_z q2.1 q2.2) ∧
      CS Z tp n cnt B A' (j + 4) th hd ne (st + 1) E AL SL ow' lb' mb mk dn kd ∧ RR Z2 tp n B' j0 (tc + 4) (j + 4) th hd ne (st + 1) (E ++ [(7, nI l, -1, nI d, -1, none, none, -1, th)]) AL SL ow' lb' mb mk dn kd ∧ (st < 20 ∧ ne < 3 ∧ l < 5 ∧ d ≤ 9) ∧ ow' l = nI th ∧ lbI ow' lb' ∧ LO SL.length ow' ∧ (∀ l, l < 5 → ow l ≠ -1 → ow' l = ow l) ∧ TLn tp n j0 (tc + 4) = RN SL E ++ [207, 400 + l, 702, 600 + d]) ∨
    JF Z Z2 B h g tp n (f_X6_readIf rcC 68 (sA h A)) (b_X11_statement_79 rc 102 (nI (tk tp n j).2.1) (sA g A2)) := by
  have J' := J
  obtain ⟨S, S2, I, V, ⟨b1, b2, b3⟩, NP, SLb, NT⟩ := J
  have hn := S2.1.2.1
  have bnd := S2.2.2.2.2.2.2.2.2.2
  have P := tk_pl (tp := tp) (n := n) (j := j) hn
  have hc0 : (tk tp n j).1 ≠ 0 := by omega
  have j1 := cs_j S hc0
  have hSL : 0 < SL.length := by omega
  have ej : j = j0 + tc := S2.2.2.2.2.2.2.2.2.1.2.1 hSL
  have c4 : ¬ (tk tp n j).1 / 100 = 4 := by omega
  have c206 : ¬ (tk tp n j).1 = 206 := by omega
  have e19 : ∀ A3 : Nat → Nat → Int32, A3 102 19 = nI ne → (A3 102 19 = 3 ↔ ne = 3) := fun A3 e => by
    rw [e]; exact nI_eq (b := 3) (by omega) (by omega)
  have wk : ∀ K1, (if ne = 3 then bd (if st = 20 then 4 else 0) 4 else (if st = 20 then 4 else 0)) = K1 → 0 < K1 → ∃ v A', b_X11_statement_79 rc 102 (nI (tk tp n j).2.1) (sA g A2) = some (v, sA g A') ∧ (v = 0 ∨ v = 1) ∧ FT Z2 tp n K1 (tk tp n j).2.1 A' := fun K1 e1 hK => by
    obtain ⟨A3, x1, x2, x3⟩ := w_cnt (rc := rc) (p := (tk tp n j).2.1) R (rr_wb S2) S2.2.2.2.1.2.2.1 bnd.2.2.2.1 (by omega)
    rw [x1, if_neg c4, d_say R x2.1 (Or.inr hc), if_neg c206]
    have e3 := e19 A3 (by rw [x3 _ _ (by omega) (by omega)]; exact S2.2.1.2.2.2.2.1)
    have e1' : (if A3 102 19 = 3 then bd (if st = 20 then 4 else 0) 4 else (if st = 20 then 4 else 0)) = K1 := by
      rw [← e1]
      by_cases z : ne = 3
      · rw [if_pos z, if_pos (e3.mpr z)]
      · rw [if_neg z, if_neg (fun w => z (e3.mp w))]
    obtain ⟨A4, y1, y3⟩ := w_asks (rc := rc) R x2 (by omega) rfl hc0 K1 e1' hK
    exact ⟨0, A4, bz y1 (Or.inl rfl), Or.inl rfl, y3⟩
  unfold f_X6_readIf b_X6_readIf_0
  rw [q_v Q.1.1, Option.bind_some]
  obtain ⟨k1, A1, x1, x2⟩ | ⟨k1, A1, x1, x2⟩ := c_cnt Q S
  · rw [x1, Option.bind_some, if_neg n10]
    unfold b_X6_readIf_9
    rw [q_i Q.1.1, Option.bind_some, x2.2.1.2.2]
    by_cases k2 : ne < 3
    · rw [if_pos (show nI ne < (3 : Int32) from nI_lt (b := 3) k2 (by omega))]
      unfold b_X6_readIf_30
      obtain ⟨A4, z1, z2, -⟩ := c_adv Q x2 (by omega)
      rw [q_68 Q, Option.bind_some, q_v Q.2.2.2.2.2.2.1, Option.bind_some, z1, Option.bind_some, q_68 Q, Option.bind_some, c_k Q, Option.bind_some]
      obtain ⟨B1, r1, r2, -⟩ := s_cnt (rc := rc) (q := nI (tk tp n j).2.1) R S2 k1
      obtain ⟨B2, u1, u2', -⟩ := r_next R r2 hSL (by omega)
      have re0 : ∀ X, (f_X11_kindOf 102 (sA g B2)).bind (fun q4 => if q4.1 = 4 then b_X11_asks_37 rc 102 q4.2 else b_X11_asks_26 rc 102 q4.2) = X → b_X11_statement_79 rc 102 (nI (tk tp n j).2.1) (sA g A2) = X.bind fun q2 => ok_z q2.1 q2.2 := fun X e => by
        rw [r1, if_neg c4, d_say R r2.1 (Or.inr hc), if_neg c206, ← e]
        congr 1
        unfold f_X11_asks b_X11_asks_0
        rw [v_g R, Option.bind_some, if_neg (fun z => absurd ((e19 B1 r2.2.1.2.2.2.2.1).mp z) (by omega))]
        unfold b_X11_asks_14
        rw [v_v R, Option.bind_some, u1, Option.bind_some, v_v R, Option.bind_some]
      rw [w_kind R u2'.1, Option.bind_some] at re0
      have C1 := cd_3 (tk_code (tp := tp) (n := n) (j := j + 1))
      by_cases c5 : (tk tp n (j + 1)).1 / 100 = 4
      · rw [if_pos ((ct_12 z2).mpr c5)]
        rw [if_pos (kf_p (v := 4) c5 rfl)] at re0
        have l5 := C1.2.1 c5
        have dm := dm100 (c := (tk tp n (j + 1)).1)
        have cw : cw1 (tk tp n (j + 1)).1 = (tk tp n (j + 1)).1 % 100 + 1 := cw1_w (by omega) (by omega)
        generalize hl : (tk tp n (j + 1)).1 % 100 = l at *
        unfold b_X6_readIf_54
        rw [q_v Q.1.1, Option.bind_some]
        obtain ⟨o, A5, f1, f2, -⟩ | ⟨o, A5, f1, f2⟩ := c_loc Q z2 I l5 cw
        · rw [f1, Option.bind_some, if_neg n10]
          unfold b_X6_readIf_63
          obtain ⟨A6, a1, a2, -⟩ := c_adv Q f2 (by omega)
          rw [q_68 Q, Option.bind_some, c_w Q, Option.bind_some, c_wh f2 cw, Option.bind_some, q_v Q.2.2.2.2.2.2.1, Option.bind_some, a1, Option.bind_some, q_v Q.1.1, Option.bind_some]
          obtain ⟨B3, t1, t2, -⟩ := s_loc (q := nI (tk tp n (j + 1)).2.1) R u2' l5 o
          obtain ⟨B4, t3, t4, -⟩ := r_next R t2 hSL (by omega)
          have C2 := tk_code (tp := tp) (n := n) (j := j + 2)
          have a2' : CS Z tp n cnt B A6 (j + 2) th hd ne (st + 1) E AL SL (owL ow l th) (lbL lb l) mb mk dn kd := a2
          have t4' : RR Z2 tp n B4 j0 (tc + 2) (j + 2) th hd ne (st + 1) E AL SL (owL ow l th) (lbL lb l) mb mk dn kd := t4
          have r37 : ∀ X, (f_X11_need 102 (702 : Int32) (sA g B4)).bind (fun q9 => if q9.1 = 0 then b_X11_asks_65 rc q9.2 else b_X11_asks_67 rc 102 (nI l) q9.2) = X → b_X11_asks_37 rc 102 (sA g B2) = X := fun X e => by
            unfold b_X11_asks_37
            rw [v_v R, Option.bind_some, w_which R u2'.1, Option.bind_some, v_g R, Option.bind_some, v_v R, Option.bind_some, u2'.1.1.2.2.2, hl, t1, Option.bind_some, v_v R, Option.bind_some, t3, Option.bind_some, v_v R, Option.bind_some]
            exact e
          obtain ⟨z0, A7, z3, z4, -⟩ | ⟨z0, A7, z3, z4⟩ := c_pass (k := 17) Q a2' (by omega) (by omega)
          · have e702 := (ckd_al2 C2).2.2.2.2.2.2.1.mp z0
            rw [show f_X6_pass 68 (17 : Int32) (sA h A6) = _ from z3, Option.bind_some, if_neg n10]
            obtain ⟨-, B5, s1, s2, -⟩ | ⟨s0, B5, s1, s2⟩ := s_need (c := 702) R t4' hSL (by omega) (by omega)
            · rw [show f_X11_need 102 (702 : Int32) (sA g B4) = _ from s1, Option.bind_some, if_neg n10] at r37
              have z4' : CS Z tp n cnt B A7 (j + 3) th hd ne (st + 1) E AL SL (owL ow l th) (lbL lb l) mb mk dn kd := z4
              have s2' : RR Z2 tp n B5 j0 (tc + 3) (j + 3) th hd ne (st + 1) E AL SL (owL ow l th) (lbL lb l) mb mk dn kd := s2
              have C3' := tk_code (tp := tp) (n := n) (j := j + 3)
              have C3 := cd_3 C3'
              unfold b_X6_readIf_89
              rw [q_68 Q, Option.bind_some, c_w Q, Option.bind_some, q_v Q.1.1, Option.bind_some]
              unfold b_X11_asks_67 at r37
              rw [v_v R, Option.bind_some, w_kind R s2'.1, Option.bind_some] at r37
              obtain ⟨y0, A8, y1, y2, -⟩ | ⟨y0, A8, y1, y2⟩ := c_pass (k := 14) Q z4' (by omega) (by omega)
              · left
                have c6 := (ckd_al2 C3').2.2.2.1.mp y0
                have d10 := C3.2.2.2.1 c6
                have dm3 := dm100 (c := (tk tp n (j + 3)).1)
                rw [if_pos (kf_p (v := 6) c6 rfl)] at r37
                have cw3 : cw1 (tk tp n (j + 3)).1 = (tk tp n (j + 3)).1 % 100 + 1 := cw1_w (by omega) (by omega)
                rw [c_wh z4' cw3, show f_X6_pass 68 (14 : Int32) (sA h A7) = _ from y1, Option.bind_some, if_neg n10]
                generalize hd' : (tk tp n (j + 3)).1 % 100 = d at *
                obtain ⟨B6, q1, q2, -⟩ := s_emit (x := (7, nI l, -1, nI d, -1, none, none, -1, th)) (a0 := 7) (a1 := nI l) (a2 := nI d) (a3 := 0) (a4 := 0) R s2' (by omega) (by show (7 : Nat) ≠ 9; decide) rfl (fun F f1 f2 f3 f4 f5 => ⟨f1, fun (z : 7 = 0 ∨ 7 = 2) => absurd z (by decide), fun (z : 7 = 2) => absurd z (by decide), fun (z : 7 = 1) => absurd z (by decide), fun (z : 7 = 3 ∨ 7 = 4) => absurd z (by decide), fun (z : 7 = 5) => absurd z (by decide), fun (z : 7 = 6) => absurd z (by decide), fun _ => ⟨f2, f3, fun y hy => by cases hy⟩, fun (z : 7 = 8) => absurd z (by decide)⟩)
                obtain ⟨B7, q3, q4, -⟩ := r_next R q2 hSL (by omega)
                refine ⟨A8, B7, l, d, _, _, rfl, re0 _ (r37 _ ?_), y2, q4, ⟨k1, k2, l5, by omega⟩, o, lbI_L l5 I, lo_L V.2.2.2.2 (by omega), ow_L, ?_⟩
                · unfold b_X11_asks_87
                  rw [v_v R, Option.bind_some, w_which R s2'.1, Option.bind_some, v_v R, Option.bind_some, hd', q1, Option.bind_some, v_v R, Option.bind_some, q3, Option.bind_some, v_g R, Option.bind_some, v_g R, Option.bind_some, q4.2.1.1, if_pos rfl, q4.2.1.2.2.2.1]
                · rw [show tc + 4 = tc + 1 + 1 + 1 + 1 by omega, tln_s, tln_s, tln_s, tln_s, hT, ← ej, show j0 + (tc + 1) = j + 1 by omega, show j0 + (tc + 1 + 1) = j + 2 by omega, show j0 + (tc + 1 + 1 + 1) = j + 3 by omega, hc, e702, show (tk tp n (j + 1)).1 = 400 + l by omega, show (tk tp n (j + 3)).1 = 600 + d by omega, List.append_assoc, List.append_assoc, List.append_assoc]
                  rfl
              · right
                have c6 : ¬ (tk tp n (j + 3)).1 / 100 = 6 := fun z => y0 ((ckd_al2 C3').2.2.2.1.mpr z)
                rw [if_neg (kf_n (v := 6) c6 rfl (by omega) (by omega))] at r37
                obtain ⟨B6, m1, m2⟩ := s_bad1 R s2'
                refine ⟨1, _, A8, B6, 0, ?_, y2, (re0 _ (r37 _ m1)).trans ok_z_0, Or.inl rfl, m2⟩
                rw [show f_X6_pass 68 (14 : Int32) (sA h A7) = _ from y1, Option.bind_some, if_pos rfl]
                exact ok_z_0
            · exact absurd e702 s0
          · obtain ⟨s0, B5, s1, s2, -⟩ | ⟨s0, B5, s1, s2⟩ := s_need (c := 702) R t4' hSL (by omega) (by omega)
            · exact absurd ((ckd_al2 C2).2.2.2.2.2.2.1.mpr s0) z0
            · right
              rw [show f_X11_need 102 (702 : Int32) (sA g B4) = _ from s1, Option.bind_some, if_pos rfl] at r37
              refine ⟨1, _, A7, B5, 0, ?_, z4, (re0 _ (r37 _ ok_z_0)).trans ok_z_0, Or.inl rfl, s2⟩
              rw [show f_X6_pass 68 (17 : Int32) (sA h A6) = _ from z3, Option.bind_some, if_pos rfl]
              exact ok_z_0
        · right
          have no : ¬ (B2 108 l = -1 ∨ B2 108 l = B2 102 17) := by
            rw [u2'.2.2.1 l l5, u2'.2.1.2.2.1]
            intro z
            apply o
            unfold owL
            rcases z with z | z
            · rw [if_pos z, up_same]
            · rw [if_neg (by rw [z]; exact nI_ne1 (by have := bnd.2.2.2.2.1; omega))]; exact z
          obtain ⟨B3, m1, m2⟩ := w_a37 (rc := rc) (p := (tk tp n (j + 1)).2.1) R (rr_wb u2') (by omega) (Or.inl rfl) c5 hl 3 (by rw [if_neg no, bqq_e]; rfl) (by omega)
          refine ⟨3, _, A5, B3, 0, ?_, f2, (re0 _ m1).trans ok_z_0, Or.inl rfl, m2⟩
          rw [f1, Option.bind_some, if_pos rfl]
          exact ok_z_0
      · right
        rw [if_neg (fun z => c5 ((ct_12 z2).mp z))]
        rw [if_neg (kf_n (v := 4) c5 rfl (by omega) (by omega))] at re0
        obtain ⟨A5, f1, f2⟩ := c_rt Q z2
        obtain ⟨B3, m1, m2⟩ := s_bad1 R u2'
        refine ⟨1, _, A5, B3, 0, ?_, f2, (re0 _ m1).trans ok_z_0, Or.inl rfl, m2⟩
        unfold b_X6_readIf_49
        rw [q_v Q.1.1, Option.bind_some]
        exact bz f1 (Or.inl rfl)
    · right
      rw [if_neg (show ¬ nI ne < (3 : Int32) from nI_nlt (b := 3) (by omega) (by omega))]
      obtain ⟨A3, f1, f2⟩ := c_refuse (A := A1) (k := 4) (p := (tk tp n j).2.1) Q x2.1.2.2.2.2.2.2
      obtain ⟨v, A4, r1, r2, r3⟩ := wk 4 (by rw [if_pos (by omega), if_neg (by omega)]; rfl) (by omega)
      refine ⟨4, _, A3, A4, v, ?_, f2, r1, r2, r3⟩
      unfold b_X6_readIf_17
      rw [q_68 Q, Option.bind_some, c_pl Q, Option.bind_some, (c_sv x2).2.2, q_v Q.1.1, Option.bind_some]
      exact bz (v := 0) f1 (Or.inl rfl)
  · right
    obtain ⟨v, A4, r1, r2, r3⟩ := wk 4 (by rw [if_pos k1]; split <;> rfl) (by omega)
    refine ⟨4, _, A1, A4, v, ?_, x2, r1, r2, r3⟩
    rw [x1, Option.bind_some, if_pos rfl]
    exact ok_z_0
end
