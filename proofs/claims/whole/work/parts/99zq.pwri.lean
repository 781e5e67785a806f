/-! ===== the two readers together: a write ===== -/
section
variable {Z Z2 : Nat → Nat → Int32} {tp : Nat → Nat} {n cnt B : Nat} {h g : AH} {A A2 A' A2' : Nat → Nat → Int32} {j0 tc j th hd ne st b p tc' j' hd' : Nat} {E : List Ent} {AL AL' : List Act} {SL : List Nat} {ow ow' : Nat → Int32} {lb mb mk dn lb' mb' mk' dn' : Int32} {kd : Nat → Int32} {rc : Nat → Int32 → AH → Option (Int32 × AH)} {x : Ent} {rC rR : Option (Int32 × AH)}
theorem lv_wr {c : Nat} {bs dg : Int32} (V : LV th E AL SL ow mk dn kd) (b1 : SL.length = th + 1) (h4 : SL.length ≤ 4) (h8 : AL.length ≤ 8) (L3 : LO SL.length ow') (hx : ∀ l, l < 5 → ow l ≠ -1 → ow' l = ow l) (hc : c < 6) (hF : exF ow' th bs dg) (L2 : LD SL.length E AL mk' dn) : LV th (E ++ [(1, -1, bs, dg, nI c, none, none, nI AL.length, th)]) (AL ++ [(th, 1, nI c, -1, E.length)]) SL ow' mk' dn kd := by
  refine lv_gen V b1 h4 h8 rfl (show (1 : Nat) ≠ 10 by decide) rfl (by rw [ln_a]; omega) ext_g hx (Or.inl rfl) ⟨show 1 ≤ 10 by decide, fun _ => ⟨AL.length, by rw [ln_a]; exact Nat.lt_succ_self _, rfl, by rw [gd_e]⟩, fun (z : 6 ≤ 1) => absurd z (by decide), fun _ => ⟨c, hc, rfl, fun (z : 1 = 2) => absurd z (by decide)⟩, fun (z : 1 = 3 ∨ 1 = 4) => absurd z (by decide), fun (z : 1 = 0 ∨ 1 = 2 ∨ 1 = 6 ∨ 1 = 7) => absurd z (by decide), fun (z : 1 = 2) => absurd z (by decide), fun _ => hF, fun (z : 1 = 7) => absurd z (by decide), fun (z : 1 = 5) => absurd z (by decide)⟩ (la_act (x := (1, -1, bs, dg, nI c, none, none, nI AL.length, th)) V.2.1 (show 1 ≤ 5 by decide) rfl) (ld_add V.2.1 L2 (by rw [ln_a]; omega) ext_g) L3
/-- behind the cluster of a write -/
theorem j_wtail {c : Nat} {mk0 : Int32} {B0 : Nat → Nat → Int32} (Q : CQ h B) (R : RZ g) (J : JP Z Z2 B tp n cnt j0 th ne SL kd A A2 tc j hd st E AL ow lb mb mk0 dn) (hT : TLn tp n j0 tc = RN SL E) (c3 : (tk tp n j).1 / 100 = 3) (ec : (tk tp n j).1 % 100 = c) (hst : st < 20) (h8 : AL.length < 8)
    (S : CS Z tp n cnt B A' j th hd ne (st + 1) E AL SL ow lb mb mk dn kd) (S2 : RR Z2 tp n B0 j0 tc j th hd ne (st + 1) E AL SL ow lb mb mk dn kd) (L2 : LD SL.length E AL mk dn) :
    JG Z Z2 B h g tp n cnt j0 th ne SL kd tc st E AL dn [] (fun _ => True) (b_X6_readWrite_56 68 (nI c) (sA h A')) (b_X11_writes_28 102 (nI (tk tp n j).2.1) (nI c) (sA g B0)) ∨ JF Z Z2 B h g tp n (b_X6_readWrite_56 68 (nI c) (sA h A')) (b_X11_writes_28 102 (nI (tk tp n j).2.1) (nI c) (sA g B0)) := by
  have J' := J
  obtain ⟨-, S20, I, V, ⟨b1, b2, b3⟩, NP, SLb, NT⟩ := J
  have hn := S2.1.2.1
  have bnd := S20.2.2.2.2.2.2.2.2.2
  have C := cd_3 (tk_code (tp := tp) (n := n) (j := j))
  have C1 := tk_code (tp := tp) (n := n) (j := j + 1)
  have l6 := C.1 c3
  have hc0 : (tk tp n j).1 ≠ 0 := by omega
  have j1 := cs_j S hc0
  have hSL : 0 < SL.length := by omega
  have ej : j = j0 + tc := S2.2.2.2.2.2.2.2.2.1.2.1 hSL
  have dm := dm100 (c := (tk tp n j).1)
  have th4 := bnd.2.2.2.2.1
  unfold b_X6_readWrite_56
  obtain ⟨A4, z1, z2, -⟩ := c_adv Q S (by omega)
  rw [q_68 Q, Option.bind_some, q_v Q.2.2.2.2.2.2.1, Option.bind_some, z1, Option.bind_some, q_v Q.1.1, Option.bind_some]
  obtain ⟨B1, r1, r2, -⟩ := s_act (op := 1) (e := E.length) (ob := nI c) (tl := -1) (q := nI (tk tp n j).2.1) R S2 h8
  obtain ⟨B3, u1, u2', -⟩ := r_next R r2 hSL (by omega)
  have refeq : ∀ v H, (f_X11_need 102 (701 : Int32) (sA g B3)).bind (fun q6 => if q6.1 = 0 then b_X11_writes_58 q6.2 else b_X11_writes_51 102 (nI c) (nI AL.length) q6.2) = some (v, H) → b_X11_writes_28 102 (nI (tk tp n j).2.1) (nI c) (sA g B0) = some (v, H) := fun v H e => by
    unfold b_X11_writes_28
    rw [v_v R, Option.bind_some, show f_X11_action 102 (nI (tk tp n j).2.1) (1 : Int32) (nI c) (-1) (sA g B0) = _ from r1, Option.bind_some, v_v R, Option.bind_some, u1, Option.bind_some, v_v R, Option.bind_some]
    exact e
  obtain ⟨z0, A5, z3, z4, -⟩ | ⟨z0, A5, z3, z4⟩ := c_pass (k := 16) Q z2 (by omega) (by omega)
  · have e1 : (tk tp n (j + 1)).1 = 701 := (ckd_al2 C1).2.2.2.2.2.1.mp z0
    rw [show f_X6_pass 68 (16 : Int32) (sA h A4) = _ from z3, Option.bind_some, if_neg n10]
    obtain ⟨-, B4, s1, s2, -⟩ | ⟨s0, B4, s1, s2⟩ := s_need (c := 701) R u2' hSL (by omega) (by omega)
    · rw [show f_X11_need 102 (701 : Int32) (sA g B3) = _ from s1, Option.bind_some, if_neg n10] at refeq
      have T2 : TLn tp n j0 (tc + 2) = RN SL E ++ [300 + c, 701] := by
        rw [show tc + 2 = tc + 1 + 1 by omega, tln_s, tln_s, hT, ← ej, show j0 + (tc + 1) = j + 1 by omega, e1, show (tk tp n j).1 = 300 + c by omega, List.append_assoc]
        rfl
      have z4' : CS Z tp n cnt B A5 (j + 2) th hd ne (st + 1) E AL SL ow lb mb mk dn kd := z4
      have s2' : RR Z2 tp n B4 j0 (tc + 2) (j + 2) th hd ne (st + 1) E (AL ++ [(th, 1, nI c, -1, E.length)]) SL ow lb mb mk dn kd := s2
      unfold b_X6_readWrite_72
      rw [q_v Q.1.1, Option.bind_some]
      unfold b_X11_writes_51 at refeq
      rw [v_v R, Option.bind_some] at refeq
      have rxf : ∀ K p, rxF Z2 g tp n K p (f_X11_expression 102 (sA g B4)) → ∃ v B', b_X11_writes_28 102 (nI (tk tp n j).2.1) (nI c) (sA g B0) = some (v, sA g B') ∧ (v = 0 ∨ v = 1) ∧ FT Z2 tp n K p B' := fun K p ⟨v, B5, q1, q2, q3⟩ => by
        rw [q1, Option.bind_some] at refeq
        rcases q3 with ⟨rfl, q3⟩ | ⟨rfl, j5, q3, q4⟩
        · rw [if_pos rfl] at refeq
          exact ⟨0, B5, refeq _ _ ok_z_0, Or.inl rfl, q3⟩
        · rw [if_neg n10] at refeq
          obtain ⟨v, B6, m1, m2, m3⟩ := w_w60 (a2 := nI c) (a3 := nI AL.length) R q3 (by omega) q2 q4
          exact ⟨v, B6, refeq _ _ m1, m2, m3⟩
      obtain ⟨k, bs, dg, ow', lb', A6, A7, B5, e1', e2, e3, e4, e5, e6, e7, e8, e9, ⟨b', l', e10⟩, e11, e12, e13, e14, e15, e16, e17⟩ | ⟨K, p, A6, q1, q2, q3⟩ | ⟨K, p, ow', lb', A6, A7, q1, q2, q4, q5, q6, q7⟩ := j_sum Q R z4' s2' I hSL (by omega) (by omega) (by omega) V.2.2.2.2 (by omega)
      · rw [e1', Option.bind_some, if_neg n10]
        rw [e8, Option.bind_some, if_neg n10] at refeq
        unfold b_X6_readWrite_79
        rw [q_v Q.1.1, Option.bind_some, e4, Option.bind_some, if_neg n10]
        unfold b_X6_readWrite_88
        have k3 : k ≤ 3 := by omega
        obtain ⟨A8, a1, a2⟩ := c_act (op := 1) (tl := -1) (bs := bs) (dg := dg) (ob := nI c) Q e5 (by omega) h8
        rw [q_co Q, Option.bind_some, q_i Q.1.1, Option.bind_some, q_i Q.1.1, Option.bind_some, q_i Q.1.1, Option.bind_some, e6, e7, e5.2.1.1, q_v Q.2.2.2.2.1.1, Option.bind_some, show f_X0_addAction B (nI th) (1 : Int32) (-1) bs dg (nI c) (sA h A7) = _ from a1, Option.bind_some, q_v Q.1.1, Option.bind_some]
        have Ck := tk_code (tp := tp) (n := n) (j := j + 2 + k)
        obtain ⟨B7, t1', t2', -⟩ := s_emit (x := (1, -1, bs, dg, nI c, none, none, nI AL.length, th)) (a0 := 1) (a1 := nI AL.length) (a2 := nI c) (a3 := nI (2 * l' + b')) (a4 := B5 102 23) R e9 (by omega) (by show (1 : Nat) ≠ 9; decide) rfl (fun F f1 f2 f3 f4 f5 => ⟨f1, fun (z : 1 = 0 ∨ 1 = 2) => absurd z (by decide), fun (z : 1 = 2) => absurd z (by decide), fun _ => ⟨f2, f3, b', l', e10.1, e10.2.1, f4, by rw [f5]; exact e10.2.2.2.2⟩, fun (z : 1 = 3 ∨ 1 = 4) => absurd z (by decide), fun (z : 1 = 5) => absurd z (by decide), fun (z : 1 = 6) => absurd z (by decide), fun (z : 1 = 7) => absurd z (by decide), fun (z : 1 = 8) => absurd z (by decide)⟩)
        have r60 : ∀ v H, f_X11_need 102 (700 : Int32) (sA g B7) = some (v, H) → (v = 0 ∨ v = 1) → b_X11_writes_60 102 (nI c) (nI AL.length) (sA g B5) = some (v, H) := fun v H e hv => by
          unfold b_X11_writes_60
          rw [v_g R, Option.bind_some, v_g R, Option.bind_some, v_g R, Option.bind_some, v_v R, Option.bind_some, e10.2.2.1, e10.2.2.2.1, mu, nI_add, show f_X11_emit 102 (1 : Int32) (nI AL.length) (nI c) (nI (2 * l' + b')) (B5 102 23) (sA g B5) = _ from t1', Option.bind_some, v_v R, Option.bind_some]
          exact bz e hv
        obtain ⟨z0', A9, z3', z4'', -⟩ | ⟨z0', A9, z3', z4''⟩ := c_pass (k := 15) Q a2 (by omega) (by omega)
        · left
          have e700 := (ckd_al2 Ck).2.2.2.2.1.mp z0'
          obtain ⟨-, B6, s1', s2'', -⟩ | ⟨s0, B6, s1', s2''⟩ := s_need (c := 700) R t2' hSL (by omega) (by omega)
          · refine jg_mk J' (bz (v := 1) (H := sA h A9) z3' (Or.inr rfl)) (refeq _ _ (r60 _ _ s1' (Or.inr rfl))) z4'' s2'' e12 (lv_wr V b1 bnd.2.1 bnd.2.2.1 e13 e14 (by omega) e11 L2) ?_ (by omega) (fun z => absurd z (by show ¬ (1 = 7 ∨ 1 = 8); decide)) ⟨_, rfl⟩ (fun _ => rfl)
            rw [tln_s, e17, T2, show j0 + (tc + 2 + k) = j + 2 + k by omega, e700]
            show _ = _ ++ ([300 + ix (nI c), 701] ++ rnx bs dg ++ [700])
            rw [ix_nI (by omega), List.append_assoc, List.append_assoc, List.append_assoc]
          · exact absurd e700 s0
        · right
          obtain ⟨s0, B6, s1', s2'', -⟩ | ⟨s0, B6, s1', s2''⟩ := s_need (c := 700) R t2' hSL (by omega) (by omega)
          · exact absurd ((ckd_al2 Ck).2.2.2.2.1.mpr s0) z0'
          · exact ⟨1, _, A9, B6, 0, bz (v := 0) (H := sA h A9) z3' (Or.inl rfl), z4'', refeq _ _ (r60 _ _ s1' (Or.inl rfl)), Or.inl rfl, s2''⟩
      · right
        obtain ⟨v, B6, m1, m2, m3⟩ := rxf K p q3
        refine ⟨K, p, A6, B6, v, ?_, q2, m1, m2, m3⟩
        rw [q1, Option.bind_some, if_pos rfl]
        exact ok_z_0
      · right
        obtain ⟨v, B6, m1, m2, m3⟩ := rxf K p q7
        refine ⟨K, p, A7, B6, v, ?_, q6, m1, m2, m3⟩
        rw [q1, Option.bind_some, if_neg n10]
        unfold b_X6_readWrite_79
        rw [q_v Q.1.1, Option.bind_some, q5, Option.bind_some, if_pos rfl]
        exact ok_z_0
    · exact absurd e1 s0
  · obtain ⟨s0, B4, s1, s2, -⟩ | ⟨s0, B4, s1, s2⟩ := s_need (c := 701) R u2' hSL (by omega) (by omega)
    · exact absurd ((ckd_al2 C1).2.2.2.2.2.1.mpr s0) z0
    · right
      rw [show f_X11_need 102 (701 : Int32) (sA g B3) = _ from s1, Option.bind_some, if_pos rfl] at refeq
      refine ⟨1, _, A5, B4, 0, ?_, z4, refeq _ _ ok_z_0, Or.inl rfl, s2⟩
      rw [show f_X6_pass 68 (16 : Int32) (sA h A4) = _ from z3, Option.bind_some, if_pos rfl]
      exact ok_z_0
theorem j_write (Q : CQ h B) (R : RZ g) (J : JP Z Z2 B tp n cnt j0 th ne SL kd A A2 tc j hd st E AL ow lb mb mk dn) (hT : TLn tp n j0 tc = RN SL E) (c3 : (tk tp n j).1 / 100 = 3) :
    JG Z Z2 B h g tp n cnt j0 th ne SL kd tc st E AL dn [] (fun _ => True) (f_X6_readWrite 68 (sA h A)) (b_X11_statement_79 rc 102 (nI (tk tp n j).2.1) (sA g A2)) ∨ JF Z Z2 B h g tp n (f_X6_readWrite 68 (sA h A)) (b_X11_statement_79 rc 102 (nI (tk tp n j).2.1) (sA g A2)) := by
  have J' := J
  obtain ⟨S, S2, I, V, ⟨b1, b2, b3⟩, NP, SLb, NT⟩ := J
  have hn := S2.1.2.1
  have bnd := S2.2.2.2.2.2.2.2.2.2
  have C := cd_3 (tk_code (tp := tp) (n := n) (j := j))
  have P := tk_pl (tp := tp) (n := n) (j := j) hn
  have l6 := C.1 c3
  have cw : cw1 (tk tp n j).1 = (tk tp n j).1 % 100 + 1 := cw1_w (by omega) (by omega)
  have w3 := S2.2.1.2.2.1
  have i6 : A2 107 6 = nI AL.length := S2.2.2.2.1.1
  have e6 : A2 107 6 = 8 ↔ AL.length = 8 := by
    rw [i6]; exact nI_eq (b := 8) (by omega) (by omega)
  have ek : A2 107 ((tk tp n j).1 % 100) = kd ((tk tp n j).1 % 100) := S2.2.2.2.2.1 _ (by omega)
  have mki := mk_iff S2 V.2.2.2.1.1
  have c4 : ¬ (tk tp n j).1 / 100 = 4 := by omega
  generalize hc : (tk tp n j).1 % 100 = c at *
  -- the reference with a fault at the statement's place
  have wk : ∀ K1 K2 K3, (if kd c = -1 then bd (if st = 20 then 4 else 0) 2 else (if st = 20 then 4 else 0)) = K1 → (if kd c = 2 then (if (mkL mk th = nI th ∧ ne = 0 ∧ dn = -1) then K1 else bd K1 6) else K1) = K2 → (if AL.length = 8 then bd K2 4 else K2) = K3 → 0 < K3 → ∃ v A', b_X11_statement_79 rc 102 (nI (tk tp n j).2.1) (sA g A2) = some (v, sA g A') ∧ (v = 0 ∨ v = 1) ∧ FT Z2 tp n K3 (tk tp n j).2.1 A' := fun K1 K2 K3 e1 e2 e3 hK => by
    obtain ⟨A3, x1, x2, x3⟩ := w_cnt (rc := rc) (p := (tk tp n j).2.1) R (rr_wb S2) S2.2.2.2.1.2.2.1 bnd.2.2.2.1 (by omega)
    rw [x1, if_neg c4]
    unfold b_X11_statement_122
    rw [v_v R, Option.bind_some, w_kind R x2.1, Option.bind_some, if_pos (kf_p (v := 3) c3 rfl)]
    unfold b_X11_statement_130
    have e1' : (if A3 107 c = -1 then bd (if st = 20 then 4 else 0) 2 else (if st = 20 then 4 else 0)) = K1 := by
      rw [x3 _ _ (by omega) (by omega), ek]; exact e1
    have mkc : mkC A3 ↔ (mkL mk th = nI th ∧ ne = 0 ∧ dn = -1) := by
      refine Iff.trans ?_ mki
      unfold mkC
      rw [x3 107 11 (by omega) (by omega), x3 102 17 (by omega) (by omega), x3 102 19 (by omega) (by omega), x3 102 20 (by omega) (by omega)]
    have e2' : (if A3 107 c = 2 then (if mkC A3 then K1 else bd K1 6) else K1) = K2 := by
      rw [x3 _ _ (by omega) (by omega), ek, ← e2]
      by_cases z : kd c = 2
      · rw [if_pos z, if_pos z]
        by_cases y : mkL mk th = nI th ∧ ne = 0 ∧ dn = -1
        · rw [if_pos y, if_pos (mkc.mpr y)]
        · rw [if_neg y, if_neg (fun w => y (mkc.mp w))]
      · rw [if_neg z, if_neg z]
    have e3' : (if A3 107 6 = 8 then bd K2 4 else K2) = K3 := by
      rw [x3 _ _ (by omega) (by omega), ← e3]
      by_cases z : AL.length = 8
      · rw [if_pos z, if_pos (e6.mpr z)]
      · rw [if_neg z, if_neg (fun w => z (e6.mp w))]
    obtain ⟨v, A4, y1, y2, y3⟩ := w_writes (c := c) R x2 (by omega) rfl hc c3 K1 K2 K3 e1' e2' e3' hK
    rw [v_v R, Option.bind_some]
    exact ⟨v, A4, bz y1 y2, y2, y3⟩
  unfold f_X6_readWrite b_X6_readWrite_0
  rw [q_v Q.1.1, Option.bind_some]
  obtain ⟨k1, x1⟩ | ⟨k1, A1, x1, x2⟩ := c_cell Q S (by omega) cw
  · rw [x1, Option.bind_some, if_neg n10]
    unfold b_X6_readWrite_7
    rw [q_v Q.1.1, Option.bind_some]
    obtain ⟨k2, A3, y1, y2⟩ | ⟨k2, A3, y1, y2⟩ := c_cnt Q S
    · rw [y1, Option.bind_some, if_neg n10]
      unfold b_X6_readWrite_14
      rw [q_v Q.1.1, Option.bind_some]
      obtain ⟨k3, z1⟩ | ⟨k3, A4, z1, z2⟩ := c_may Q y2
      · rw [z1, Option.bind_some, if_neg n10]
        unfold b_X6_readWrite_23
        rw [q_68 Q, Option.bind_some, c_w Q, Option.bind_some, c_wh y2 cw, q_pr Q, Option.bind_some, q_kr Q, Option.bind_some, and7 (by omega), q_l Q.2.2.2.1.1 (by rw [Q.2.2.2.1.2]; omega) (by omega), Option.bind_some, y2.2.2.2.2.2.2.2.1 c (by omega)]
        obtain ⟨B1, r1, r2, -⟩ := s_cnt (rc := rc) (q := nI (tk tp n j).2.1) R S2 k2
        have refeq : ∀ v H, (if kd c = 2 then b_X11_writes_23 102 (nI (tk tp n j).2.1) (nI c) (sA g B1) else b_X11_writes_28 102 (nI (tk tp n j).2.1) (nI c) (sA g B1)) = some (v, H) → (v = 0 ∨ v = 1) → b_X11_statement_79 rc 102 (nI (tk tp n j).2.1) (sA g A2) = some (v, H) := fun v H e hv => by
          rw [r1, if_neg c4]
          unfold b_X11_statement_122
          rw [v_v R, Option.bind_some, w_kind R r2.1, Option.bind_some, if_pos (kf_p (v := 3) c3 rfl)]
          unfold b_X11_statement_130
          rw [v_v R, Option.bind_some]
          refine bz ?_ hv
          unfold f_X11_writes b_X11_writes_0
          rw [v_v R, Option.bind_some, w_which R r2.1, Option.bind_some, v_v R, Option.bind_some, hc, s_cell R r2 (by omega) k1, Option.bind_some, v_r7 R, Option.bind_some, ad, Nat.zero_add, v_l7 R (by omega), Option.bind_some, r2.2.2.2.2.1 c (by omega)]
          exact e
        by_cases kf : kd c = 2
        · rw [if_pos kf]
          rw [if_pos kf] at refeq
          unfold b_X6_readWrite_47
          rw [q_v Q.1.1, Option.bind_some]
          obtain ⟨m0, A5, m1, m2⟩ | ⟨m0, A5, m1, m2⟩ := c_mk Q y2
          · rw [m1, Option.bind_some, if_neg n10]
            obtain ⟨B2, t1, t2, -⟩ := s_mk (q := nI (tk tp n j).2.1) R r2 m0
            unfold b_X11_writes_23 at refeq
            rw [v_v R, Option.bind_some, t1, Option.bind_some] at refeq
            obtain G | ⟨K, p, A6, B6, v, f1, f2, f3, f4, f5⟩ := j_wtail Q R J' hT c3 hc k2 k3 m2 t2 (ld_mk V.2.2.2.1 (by omega) m0.1)
            · left
              obtain ⟨a1, a2, a3, a4, a5, a6, a7, a8, a9, a10, a11, a12, a13, a14, a15, a16⟩ := G
              exact ⟨a1, a2, a3, a4, a5, a6, a7, a8, a9, a10, a11, a12, a13, a14, refeq _ _ a15 (Or.inr rfl), a16⟩
            · exact Or.inr ⟨K, p, A6, B6, v, f1, f2, refeq _ _ f3 f4, f4, f5⟩
          · right
            obtain ⟨v, A6, f1, f2, f3⟩ := wk 0 6 6 (by rw [if_neg k1, if_neg (by omega)]) (by rw [if_pos kf, if_neg m0]; rfl) (by rw [if_neg (by omega)]) (by omega)
            refine ⟨6, _, A5, A6, v, ?_, m2, f1, f2, f3⟩
            rw [m1, Option.bind_some, if_pos rfl]
            exact ok_z_0
        · rw [if_neg kf]
          rw [if_neg kf] at refeq
          obtain G | ⟨K, p, A6, B6, v, f1, f2, f3, f4, f5⟩ := j_wtail Q R J' hT c3 hc k2 k3 y2 r2 V.2.2.2.1
          · left
            obtain ⟨a1, a2, a3, a4, a5, a6, a7, a8, a9, a10, a11, a12, a13, a14, a15, a16⟩ := G
            exact ⟨a1, a2, a3, a4, a5, a6, a7, a8, a9, a10, a11, a12, a13, a14, refeq _ _ a15 (Or.inr rfl), a16⟩
          · exact Or.inr ⟨K, p, A6, B6, v, f1, f2, refeq _ _ f3 f4, f4, f5⟩
      · right
        obtain ⟨v, A6, f1, f2, f3⟩ := wk 0 _ 4 (by rw [if_neg k1, if_neg (by omega)]) rfl (by rw [if_pos k3]; split <;> first | rfl | (split <;> rfl)) (by omega)
        refine ⟨4, _, A4, A6, v, ?_, z2, f1, f2, f3⟩
        rw [z1, Option.bind_some, if_pos rfl]
        exact ok_z_0
    · right
      obtain ⟨v, A6, f1, f2, f3⟩ := wk 4 4 4 (by rw [if_neg k1, if_pos k2]) (by split <;> first | rfl | (split <;> rfl)) (by split <;> rfl) (by omega)
      refine ⟨4, _, A3, A6, v, ?_, y2, f1, f2, f3⟩
      rw [y1, Option.bind_some, if_pos rfl]
      exact ok_z_0
  · right
    have k2 : ¬ kd c = 2 := by rw [k1]; decide
    obtain ⟨v, A6, f1, f2, f3⟩ := wk 2 2 2 (by rw [if_pos k1]; split <;> rfl) (by rw [if_neg k2]) (by split <;> rfl) (by omega)
    refine ⟨2, _, A1, A6, v, ?_, x2, f1, f2, f3⟩
    rw [x1, Option.bind_some, if_pos rfl]
    exact ok_z_0
end
