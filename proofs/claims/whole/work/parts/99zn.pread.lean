/-! ===== the two readers together: reads ===== -/
section
variable {Z : Nat → Nat → Int32} {tp : Nat → Nat} {n : Nat} {h : AH} {A A' : Nat → Nat → Int32} {j K p q b : Nat}
theorem w_g35c {a2 : Int32} {c : Nat} (R : RZ h) (W : WB Z tp n 0 p A j b) (hb : b ≤ 160) (ep : (tk tp n j).2.1 = p) (c3 : (tk tp n j).1 / 100 = 3) (ec : (tk tp n j).1 % 100 = c)
    (K1 K2 : Nat) (e1 : (if A 107 6 = 8 then bd 0 4 else 0) = K1) (e2 : (if A 107 c = -1 then bd K1 2 else K1) = K2) (hK : 0 < K2) : ∃ v A', b_X11_gives_35 102 a2 (sA h A) = some (v, sA h A') ∧ (v = 0 ∨ v = 1) ∧ FT Z tp n K2 p A' := by
  have hn := W.1.2.1
  have P := tk_pl (tp := tp) (n := n) (j := j) hn
  have l6 := (cd_3 (tk_code (tp := tp) (n := n) (j := j))).1 c3
  have p1 := P.2.2 (by omega)
  unfold b_X11_gives_35
  rw [v_g R, Option.bind_some, v_v R, Option.bind_some, w_which R W.1, Option.bind_some, v_v R, Option.bind_some, W.1.1.2.2.2, ep]
  obtain ⟨v1, A1, x1, x2, x3⟩ := w_act (q := p) (a1 := 0) (a2 := nI ((tk tp n j).1 % 100)) (a3 := a2) R W (Or.inl rfl) (by omega)
  rw [bqq_e, e1] at x2
  obtain ⟨A2, y1, y2, -⟩ := w_cell (q := p) (c := c) R x2 (Or.inl rfl) (by omega) (by omega)
  rw [bqq_e, x3 107 c (by omega) (by omega), e2] at y2
  rw [x1, Option.bind_some, v_v R, Option.bind_some, w_which R x2.1, Option.bind_some, v_g R, Option.bind_some, v_v R, Option.bind_some, x2.1.1.2.2.2, ep, ec, y1, Option.bind_some, v_v R, Option.bind_some, w_which R y2.1, Option.bind_some, v_v R, Option.bind_some]
  obtain ⟨v3, A3, A4, v5, A5, z1, z2, z3, z4, z5⟩ := w_enn (a0 := 0) (a1 := v1) (a2 := nI ((tk tp n j).1 % 100)) (a3 := a2) (a4 := 0) (c := 700) R y2 hb hK (by omega)
  rw [z1, Option.bind_some, v_v R, Option.bind_some, z2, Option.bind_some, v_v R, Option.bind_some, show f_X11_need 102 (700 : Int32) (sA h A4) = _ from z3, Option.bind_some]
  exact ⟨v5, A5, ok_zv z4, z4, z5⟩
theorem w_t41c {a2 a3 : Int32} {c : Nat} (R : RZ h) (W : WB Z tp n 0 p A j b) (hb : b ≤ 160) (ep : (tk tp n j).2.1 = p) (c3 : (tk tp n j).1 / 100 = 3) (ec : (tk tp n j).1 % 100 = c)
    (K1 K2 K3 : Nat) (e1 : (if A 107 6 = 8 then bd 0 4 else 0) = K1) (e2 : (if A 107 c = -1 then bd K1 2 else K1) = K2) (e3 : (if A 107 c = 2 then K2 else bd K2 6) = K3) (hK : 0 < K3) : ∃ v A', b_X11_through_41 102 a2 a3 (sA h A) = some (v, sA h A') ∧ (v = 0 ∨ v = 1) ∧ FT Z tp n K3 p A' := by
  have hn := W.1.2.1
  have P := tk_pl (tp := tp) (n := n) (j := j) hn
  have l6 := (cd_3 (tk_code (tp := tp) (n := n) (j := j))).1 c3
  have p1 := P.2.2 (by omega)
  unfold b_X11_through_41
  rw [v_g R, Option.bind_some, v_v R, Option.bind_some, w_which R W.1, Option.bind_some, v_v R, Option.bind_some, W.1.1.2.2.2, ep]
  obtain ⟨v1, A1, x1, x2, x3⟩ := w_act (q := p) (a1 := 2) (a2 := nI ((tk tp n j).1 % 100)) (a3 := a2) R W (Or.inl rfl) (by omega)
  rw [bqq_e, e1] at x2
  obtain ⟨A2, y1, y2, y3⟩ := w_cell (q := p) (c := c) R x2 (Or.inl rfl) (by omega) (by omega)
  rw [bqq_e, x3 107 c (by omega) (by omega), e2] at y2
  rw [x1, Option.bind_some, v_v R, Option.bind_some, w_which R x2.1, Option.bind_some, v_g R, Option.bind_some, v_v R, Option.bind_some, x2.1.1.2.2.2, ep, ec, y1, Option.bind_some, v_r7 R, Option.bind_some, v_v R, Option.bind_some, w_which R y2.1, Option.bind_some, ec, ad, Nat.zero_add, v_l7 R (by omega), Option.bind_some, y3 107 c (by omega), x3 107 c (by omega) (by omega)]
  by_cases c2 : A 107 c = 2
  · rw [if_pos c2] at e3 ⊢
    subst e3
    exact w_t94 R y2 hb hK (by omega)
  · rw [if_neg c2] at e3 ⊢
    unfold b_X11_through_84
    obtain ⟨A4, u1, u2', -⟩ := w_bg (k := 6) (q := p) R y2 (Or.inl rfl) (by omega) (by omega) (by omega)
    rw [bqq_e, e3] at u2'
    rw [v_g R, Option.bind_some, v_v R, Option.bind_some, y2.1.1.2.2.2, ep, show f_X11_bad 102 (6 : Int32) (nI p) (sA h A2) = _ from u1, Option.bind_some]
    exact w_t94 R u2' hb hK (by omega)
end
section
variable {Z Z2 : Nat → Nat → Int32} {tp : Nat → Nat} {n cnt B : Nat} {h g : AH} {A A2 A' : Nat → Nat → Int32} {j0 tc j th hd ne st b p : Nat} {E : List Ent} {AL : List Act} {SL : List Nat} {ow : Nat → Int32} {lb mb mk dn : Int32} {kd : Nat → Int32}
theorem cs_j (S : CS Z tp n cnt B A j th hd ne st E AL SL ow lb mb mk dn kd) (hc : (tk tp n j).1 ≠ 0) : j < 1000 := by
  obtain ⟨⟨-, ⟨t1, t2, t3⟩, -⟩, -⟩ := S
  by_cases c : j < cnt
  · omega
  · exact absurd (by rw [t3 j (by omega)]) hc
/-- the end of a read: its cell -/
theorem j_cell {c l : Nat} {fr : Int32} {op : Nat} (Q : CQ h B) (R : RZ g) (S : CS Z tp n cnt B A j th hd ne st E AL SL ow lb mb mk dn kd) (S2 : RR Z2 tp n A2 j0 tc j th hd ne st E AL SL ow lb mb mk dn kd) (hE : E.length < 64) (hSL : 0 < SL.length) (htc : tc + 1 < 480)
    (c3 : (tk tp n j).1 / 100 = 3) (ec : (tk tp n j).1 % 100 = c) (ho : op = 0 ∨ op = 2) :
    ((∃ A' A2' x, f_X6_readRead 68 (nI op) (nI l) fr (sA h A) = some (1, sA h A') ∧ (if op = 0 then b_X11_gives_35 102 (nI l) (sA g A2) else b_X11_through_41 102 (nI l) fr (sA g A2)) = some (1, sA g A2') ∧ x = (op, nI l, fr, -1, nI c, none, none, nI AL.length, th) ∧
      CS Z tp n cnt B A' (j + 2) th hd ne st (E ++ [x]) (AL ++ [(th, op, nI c, nI l, E.length)]) SL ow lb mb mk dn kd ∧ RR Z2 tp n A2' j0 (tc + 2) (j + 2) th hd ne st (E ++ [x]) (AL ++ [(th, op, nI c, nI l, E.length)]) SL ow lb mb mk dn kd ∧ (tk tp n (j + 1)).1 = 700 ∧ AL.length < 8 ∧ (op = 2 → kd c = 2)) ∨
    JF Z Z2 B h g tp n (f_X6_readRead 68 (nI op) (nI l) fr (sA h A)) (if op = 0 then b_X11_gives_35 102 (nI l) (sA g A2) else b_X11_through_41 102 (nI l) fr (sA g A2))) := by
  have hn := S2.1.2.1
  have C := cd_3 (tk_code (tp := tp) (n := n) (j := j))
  have C1 := tk_code (tp := tp) (n := n) (j := j + 1)
  have l6 := C.1 c3
  have hc0 : (tk tp n j).1 ≠ 0 := by omega
  have j1 := cs_j S hc0
  have cw : cw1 (tk tp n j).1 = c + 1 := by rw [cw1_w (by omega) (by omega), ec]
  have h8 := S.2.2.2.2.2.2.2.2.2.2.1
  have i6 : A2 107 6 = nI AL.length := S2.2.2.2.1.1
  have e6 : A2 107 6 = 8 ↔ AL.length = 8 := by
    rw [i6]; exact nI_eq (b := 8) (by omega) (by omega)
  have ek : A2 107 c = kd c := S2.2.2.2.2.1 c (by omega)
  -- the reference with a fault at the cell
  have wk : ∀ K1 K2 K3, (if AL.length = 8 then 4 else 0) = K1 → (if kd c = -1 then bd K1 2 else K1) = K2 → (if op = 0 ∨ kd c = 2 then K2 else bd K2 6) = K3 → 0 < K3 → ∃ v A', (if op = 0 then b_X11_gives_35 102 (nI l) (sA g A2) else b_X11_through_41 102 (nI l) fr (sA g A2)) = some (v, sA g A') ∧ (v = 0 ∨ v = 1) ∧ FT Z2 tp n K3 (tk tp n j).2.1 A' := fun K1 K2 K3 e1 e2 e3 hK => by
    have e1' : (if A2 107 6 = 8 then bd 0 4 else 0) = K1 := by
      rw [← e1]
      by_cases c8 : AL.length = 8
      · rw [if_pos c8, if_pos (e6.mpr c8)]; rfl
      · rw [if_neg c8, if_neg (fun z => c8 (e6.mp z))]
    have e2' : (if A2 107 c = -1 then bd K1 2 else K1) = K2 := by rw [ek]; exact e2
    by_cases o : op = 0
    · rw [if_pos o]
      rw [if_pos (Or.inl o)] at e3
      subst e3
      exact w_g35c R (rr_wb S2) (by omega) rfl c3 ec K1 K2 e1' e2' hK
    · rw [if_neg o]
      have e3' : (if A2 107 c = 2 then K2 else bd K2 6) = K3 := by
        rw [ek, ← e3]
        by_cases c2 : kd c = 2
        · rw [if_pos c2, if_pos (Or.inr c2)]
        · rw [if_neg c2, if_neg (fun z => z.elim o c2)]
      exact w_t41c R (rr_wb S2) (by omega) rfl c3 ec K1 K2 K3 e1' e2' e3' hK
  unfold f_X6_readRead b_X6_readRead_0
  rw [q_68 Q, Option.bind_some, c_k Q, Option.bind_some, if_pos ((ct_11 S).mpr c3)]
  unfold b_X6_readRead_17
  rw [q_v Q.1.1, Option.bind_some]
  obtain ⟨k1, x1⟩ | ⟨k1, A1, x1, x2⟩ := c_cell Q S (by omega) cw
  · rw [x1, Option.bind_some, if_neg n10]
    unfold b_X6_readRead_24
    rw [q_v Q.1.1, Option.bind_some]
    obtain ⟨k2, y1⟩ | ⟨k2, A1, y1, y2⟩ := c_may Q S
    · rw [y1, Option.bind_some, if_neg n10]
      unfold b_X6_readRead_33
      rw [q_68 Q, Option.bind_some, c_w Q, Option.bind_some, c_wh S cw]
      -- the final cell of THROUGH
      have b78 : (op = 2 → kd c = 2) → ((∃ A' A2' x, b_X6_readRead_78 68 (nI op) (nI l) fr (nI c) (sA h A) = some (1, sA h A') ∧ (if op = 0 then b_X11_gives_35 102 (nI l) (sA g A2) else b_X11_through_41 102 (nI l) fr (sA g A2)) = some (1, sA g A2') ∧ x = (op, nI l, fr, -1, nI c, none, none, nI AL.length, th) ∧
          CS Z tp n cnt B A' (j + 2) th hd ne st (E ++ [x]) (AL ++ [(th, op, nI c, nI l, E.length)]) SL ow lb mb mk dn kd ∧ RR Z2 tp n A2' j0 (tc + 2) (j + 2) th hd ne st (E ++ [x]) (AL ++ [(th, op, nI c, nI l, E.length)]) SL ow lb mb mk dn kd ∧ (tk tp n (j + 1)).1 = 700 ∧ AL.length < 8 ∧ (op = 2 → kd c = 2)) ∨
          JF Z Z2 B h g tp n (b_X6_readRead_78 68 (nI op) (nI l) fr (nI c) (sA h A)) (if op = 0 then b_X11_gives_35 102 (nI l) (sA g A2) else b_X11_through_41 102 (nI l) fr (sA g A2))) := fun hk2 => by
        unfold b_X6_readRead_78
        obtain ⟨A3, u1, u2'⟩ := c_act (op := op) (tl := nI l) (bs := fr) (dg := -1) (ob := nI c) Q S hE k2
        rw [q_co Q, Option.bind_some, q_i Q.1.1, Option.bind_some, S.2.1.1, q_v Q.2.2.2.2.1.1, Option.bind_some, u1, Option.bind_some, q_68 Q, Option.bind_some, q_v Q.2.2.2.2.2.2.1, Option.bind_some]
        obtain ⟨A4, v1, v2, -⟩ := c_adv Q u2' (by omega)
        rw [v1, Option.bind_some, q_v Q.1.1, Option.bind_some]
        -- the reference
        obtain ⟨A5, r1, r2, r3⟩ := s_act (op := op) (e := E.length) (ob := nI c) (tl := nI l) (q := nI (tk tp n j).2.1) R S2 k2
        obtain ⟨A6, t1, t2, t3⟩ := s_emit (x := (op, nI l, fr, -1, nI c, none, none, nI AL.length, th)) (a0 := nI op) (a1 := nI AL.length) (a2 := nI c) (a3 := nI l) (a4 := if op = 0 then 0 else fr) R r2 hE (by show op ≠ 9; omega) rfl (fun F f1 f2 f3 f4 f5 => by
          refine ⟨?_, fun _ => ⟨f2, f3, f4⟩, fun (o : op = 2) => ?_, fun (o : op = 1) => absurd o (by omega), fun (o : op = 3 ∨ op = 4) => absurd o (by omega), fun (o : op = 5) => absurd o (by omega), fun (o : op = 6) => absurd o (by omega), fun (o : op = 7) => absurd o (by omega), fun (o : op = 8) => absurd o (by omega)⟩
          · show _ = if op = 10 then _ else _
            rw [if_neg (by omega)]; exact f1
          · rw [f5, if_neg (by omega)]; rfl)
        obtain ⟨A7, w1, w2, -⟩ := r_next R t2 hSL (by omega)
        have refeq : ∀ (X : Option (Int32 × AH)), f_X11_need 102 (700 : Int32) (sA g A7) = X → (∀ v H, X = some (v, H) → v = 0 ∨ v = 1) → (∃ v H, X = some (v, H)) → (if op = 0 then b_X11_gives_35 102 (nI l) (sA g A2) else b_X11_through_41 102 (nI l) fr (sA g A2)) = X := fun X hX hv ⟨v, H, hX'⟩ => by
          have hz : (X.bind fun q18 => ok_z q18.1 q18.2) = X := by
            rw [hX', Option.bind_some]; exact ok_zv (hv v H hX')
          by_cases o : op = 0
          · rw [if_pos o]
            subst o
            unfold b_X11_gives_35
            rw [v_g R, Option.bind_some, v_v R, Option.bind_some, w_which R S2.1, Option.bind_some, v_v R, Option.bind_some, S2.1.1.2.2.2, ec, show f_X11_action 102 (nI (tk tp n j).2.1) (0 : Int32) (nI c) (nI l) (sA g A2) = _ from r1, Option.bind_some, v_v R, Option.bind_some, w_which R r2.1, Option.bind_some, v_g R, Option.bind_some, v_v R, Option.bind_some, ec, s_cell R r2 (by omega) k1, Option.bind_some, v_v R, Option.bind_some, w_which R r2.1, Option.bind_some, v_v R, Option.bind_some, ec, show f_X11_emit 102 (0 : Int32) (nI AL.length) (nI c) (nI l) (0 : Int32) (sA g A5) = _ from t1, Option.bind_some, v_v R, Option.bind_some, w1, Option.bind_some, v_v R, Option.bind_some, hX]
            exact hz
          · rw [if_neg o]
            have o2 : op = 2 := by omega
            subst o2
            unfold b_X11_through_41
            rw [v_g R, Option.bind_some, v_v R, Option.bind_some, w_which R S2.1, Option.bind_some, v_v R, Option.bind_some, S2.1.1.2.2.2, ec, show f_X11_action 102 (nI (tk tp n j).2.1) (2 : Int32) (nI c) (nI l) (sA g A2) = _ from r1, Option.bind_some, v_v R, Option.bind_some, w_which R r2.1, Option.bind_some, v_g R, Option.bind_some, v_v R, Option.bind_some, ec, s_cell R r2 (by omega) k1, Option.bind_some, v_r7 R, Option.bind_some, v_v R, Option.bind_some, w_which R r2.1, Option.bind_some, ec, ad, Nat.zero_add, v_l7 R (by omega), Option.bind_some, r2.2.2.2.2.1 c (by omega), hk2 rfl, if_pos rfl]
            unfold b_X11_through_94
            rw [v_v R, Option.bind_some, w_which R r2.1, Option.bind_some, v_v R, Option.bind_some, ec, show f_X11_emit 102 (2 : Int32) (nI AL.length) (nI c) (nI l) fr (sA g A5) = _ from t1, Option.bind_some, v_v R, Option.bind_some, w1, Option.bind_some, v_v R, Option.bind_some, hX]
            exact hz
        obtain ⟨z0, A8, z1, z2, -⟩ | ⟨z0, A8, z1, z2⟩ := c_pass (k := 15) Q v2 (by omega) (by omega)
        · have z7 := (ckd_al2 C1).2.2.2.2.1.mp z0
          obtain ⟨s0, A9, s1, s2, -⟩ | ⟨s0, A9, s1, s2⟩ := s_need (c := 700) R w2 hSL (by omega) (by omega)
          · left
            refine ⟨A8, A9, _, ?_, refeq _ s1 (fun v H e => by cases e; exact Or.inr rfl) ⟨_, _, rfl⟩, rfl, z2, s2, z7, k2, hk2⟩
            rw [show f_X6_pass 68 (15 : Int32) (sA h A4) = _ from z1, Option.bind_some]
            exact ok_z_1
          · exact absurd z7 s0
        · obtain ⟨s0, A9, s1, s2, -⟩ | ⟨s0, A9, s1, s2⟩ := s_need (c := 700) R w2 hSL (by omega) (by omega)
          · exact absurd ((ckd_al2 C1).2.2.2.2.1.mpr s0) z0
          · right
            refine ⟨1, _, A8, A9, 0, ?_, z2, refeq _ s1 (fun v H e => by cases e; exact Or.inl rfl) ⟨_, _, rfl⟩, Or.inl rfl, s2⟩
            rw [show f_X6_pass 68 (15 : Int32) (sA h A4) = _ from z1, Option.bind_some]
            exact ok_z_0
      by_cases o2 : op = 2
      · have e2 : nI op = (2 : Int32) := by rw [o2]; rfl
        rw [if_pos e2]
        unfold b_X6_readRead_47
        rw [q_pr Q, Option.bind_some, q_kr Q, Option.bind_some, and7 (by omega), q_l Q.2.2.2.1.1 (by rw [Q.2.2.2.1.2]; omega) (by omega), Option.bind_some, S.2.2.2.2.2.2.2.1 c (by omega)]
        by_cases kf : kd c = 2
        · rw [if_pos kf]
          exact b78 (fun _ => kf)
        · rw [if_neg kf]
          right
          obtain ⟨A3, u1, u2'⟩ := c_refuse (A := A) (k := 6) (p := (tk tp n j).2.1) Q S.1.2.2.2.2.2.2
          obtain ⟨v, A4, r1, r2, r3⟩ := wk 0 0 6 (by rw [if_neg (by omega)]) (by rw [if_neg k1]) (by rw [if_neg (fun z => z.elim (by omega) kf)]; rfl) (by omega)
          refine ⟨6, _, A3, A4, v, ?_, u2', r1, r2, r3⟩
          unfold b_X6_readRead_64
          rw [q_68 Q, Option.bind_some, c_pl Q, Option.bind_some, (c_sv S).2.2, q_v Q.1.1, Option.bind_some, show f_X6_refuse 68 (6 : Int32) (nI (tk tp n j).2.1) (sA h A) = _ from u1, Option.bind_some]
          exact ok_z_0
      · have e2 : ¬ nI op = (2 : Int32) := fun z => o2 ((nI_eq (a := op) (b := 2) (by omega) (by omega)).mp z)
        rw [if_neg e2]
        exact b78 (fun z => absurd z o2)
    · right
      obtain ⟨v, A4, r1, r2, r3⟩ := wk 4 4 4 (by rw [if_pos k2]) (by rw [if_neg k1]) (by split <;> rfl) (by omega)
      refine ⟨4, _, A1, A4, v, ?_, y2, r1, r2, r3⟩
      rw [y1, Option.bind_some, if_pos rfl]
      exact ok_z_0
  · right
    have e2 : ∀ K1, K1 = 4 ∨ K1 = 0 → bd K1 2 = 2 := fun K1 hK => by rcases hK with rfl | rfl <;> rfl
    obtain ⟨v, A4, r1, r2, r3⟩ := wk _ 2 2 rfl (by rw [if_pos k1]; exact e2 _ (by split <;> omega)) (by split <;> rfl) (by omega)
    refine ⟨2, _, A1, A4, v, ?_, x2, r1, r2, r3⟩
    rw [x1, Option.bind_some, if_pos rfl]
    exact ok_z_0
end
