/-! ===== the two readers together: monitors, done ===== -/
theorem hd_bit : ∀ hd, hd < 4 → ∀ m, m < 2 → ((nI hd >>> (nI m &&& 31)) &&& 1 = 0 ∧ hd / 2 ^ m % 2 = 0 ∧ nI hd ^^^ ((1 : Int32) <<< (nI m &&& 31)) = nI (hd + 2 ^ m) ∧ nI hd ||| ((1 : Int32) <<< (nI m &&& 31)) = nI (hd + 2 ^ m) ∧ hd + 2 ^ m < 4) ∨ ((nI hd >>> (nI m &&& 31)) &&& 1 = 1 ∧ hd / 2 ^ m % 2 = 1 ∧ nI hd ^^^ ((1 : Int32) <<< (nI m &&& 31)) = nI (hd - 2 ^ m) ∧ nI hd &&& (((1 : Int32) <<< (nI m &&& 31)) ^^^ (-1)) = nI (hd - 2 ^ m)) := by decide
theorem and1 : ∀ m, m < 2 → nI m &&& (1 : Int32) = nI m := by decide
section
variable {Z Z2 : Nat → Nat → Int32} {tp : Nat → Nat} {n cnt B : Nat} {h g : AH} {A A2 A' A2' : Nat → Nat → Int32} {j0 tc j th hd ne st b p tc' j' hd' : Nat} {E : List Ent} {AL AL' : List Act} {SL : List Nat} {ow ow' : Nat → Int32} {lb mb mk dn lb' mb' mk' dn' : Int32} {kd : Nat → Int32} {rc : Nat → Int32 → AH → Option (Int32 × AH)} {x : Ent} {rC rR : Option (Int32 × AH)}
theorem d_tok {c : Nat} (T : RT Z tp n A j) (hc : c < 1000) : A 102 6 = nI c ↔ (tk tp n j).1 = c := by
  have C := cd_3 (tk_code (tp := tp) (n := n) (j := j))
  rw [T.1.2.2.1]
  exact nI_eq (by omega) (by omega)
theorem d_grd {q a1 : Int32} (R : RZ g) (T : RT Z tp n A j) (hc : ((tk tp n j).1 = 204 ∧ a1 = 1) ∨ ((tk tp n j).1 = 205 ∧ a1 = 0)) : b_X11_statement_122 rc 102 q (sA g A) = (f_X11_guards 102 a1 q (sA g A)).bind fun q2 => ok_z q2.1 q2.2 := by
  have C := cd_3 (tk_code (tp := tp) (n := n) (j := j))
  unfold b_X11_statement_122
  rw [v_v R, Option.bind_some, w_kind R T, Option.bind_some, if_neg (kf_n (v := 3) (k := 3) (by omega) rfl (by omega) (by omega))]
  unfold b_X11_statement_136
  rw [v_g R, Option.bind_some]
  have t4 : A 102 6 = (204 : Int32) ↔ (tk tp n j).1 = 204 := d_tok (c := 204) T (by omega)
  have t5 : A 102 6 = (205 : Int32) ↔ (tk tp n j).1 = 205 := d_tok (c := 205) T (by omega)
  rcases hc with ⟨c1, rfl⟩ | ⟨c1, rfl⟩
  · rw [if_pos (t4.mpr c1)]
    unfold b_X11_statement_156
    rw [v_g R, Option.bind_some, if_pos (t4.mpr c1)]
    unfold b_X11_statement_167 b_X11_statement_172
    rw [v_v R, Option.bind_some]
  · rw [if_neg (fun z => absurd (t4.mp z) (by omega))]
    unfold b_X11_statement_146
    rw [v_g R, Option.bind_some, if_pos (t5.mpr c1)]
    unfold b_X11_statement_156
    rw [v_g R, Option.bind_some, if_neg (fun z => absurd (t4.mp z) (by omega))]
    unfold b_X11_statement_171 b_X11_statement_172
    rw [v_v R, Option.bind_some]
theorem d_say {q : Int32} (R : RZ g) (T : RT Z tp n A j) (hc : (tk tp n j).1 = 206 ∨ (tk tp n j).1 = 207) : b_X11_statement_122 rc 102 q (sA g A) = if (tk tp n j).1 = 206 then (f_X11_says 102 q (sA g A)).bind (fun q2 => ok_z q2.1 q2.2) else (f_X11_asks rc 102 q (sA g A)).bind fun q2 => ok_z q2.1 q2.2 := by
  have C := cd_3 (tk_code (tp := tp) (n := n) (j := j))
  unfold b_X11_statement_122
  rw [v_v R, Option.bind_some, w_kind R T, Option.bind_some, if_neg (kf_n (v := 3) (k := 3) (by omega) rfl (by omega) (by omega))]
  unfold b_X11_statement_136
  have t4 : A 102 6 = (204 : Int32) ↔ (tk tp n j).1 = 204 := d_tok (c := 204) T (by omega)
  have t5 : A 102 6 = (205 : Int32) ↔ (tk tp n j).1 = 205 := d_tok (c := 205) T (by omega)
  have t6 : A 102 6 = (206 : Int32) ↔ (tk tp n j).1 = 206 := d_tok (c := 206) T (by omega)
  rw [v_g R, Option.bind_some, if_neg (fun z => absurd (t4.mp z) (by omega))]
  unfold b_X11_statement_146
  rw [v_g R, Option.bind_some, if_neg (fun z => absurd (t5.mp z) (by omega))]
  unfold b_X11_statement_177
  rw [v_g R, Option.bind_some]
  by_cases c6 : (tk tp n j).1 = 206
  · rw [if_pos (t6.mpr c6), if_pos c6]
    unfold b_X11_statement_187
    rw [v_v R, Option.bind_some]
    rfl
  · rw [if_neg (fun z => c6 (t6.mp z)), if_neg c6]
    unfold b_X11_statement_195
    rw [v_v R, Option.bind_some]
    rfl
theorem lv_mo {op m : Nat} (V : LV th E AL SL ow mk dn kd) (b1 : SL.length = th + 1) (h4 : SL.length ≤ 4) (h8 : AL.length ≤ 8) (ho : op = 3 ∨ op = 4) (hm : m < 2) : LV th (E ++ [(op, -1, -1, -1, nI m, none, none, nI AL.length, th)]) (AL ++ [(th, op, nI m, -1, E.length)]) SL ow mk dn kd := by
  refine lv_gen V b1 h4 h8 rfl (show op ≠ 10 by omega) rfl (by rw [ln_a]; omega) ext_g (fun _ _ _ => rfl) (Or.inl rfl) ⟨show op ≤ 10 by omega, fun _ => ⟨AL.length, by rw [ln_a]; exact Nat.lt_succ_self _, rfl, by rw [gd_e]⟩, fun (z : 6 ≤ op) => absurd z (by omega), fun (z : op = 0 ∨ op = 1 ∨ op = 2) => absurd z (by omega), fun _ => ⟨m, hm, rfl⟩, fun (z : op = 0 ∨ op = 2 ∨ op = 6 ∨ op = 7) => absurd z (by omega), fun (z : op = 2) => absurd z (by omega), fun (z : op = 1 ∨ op = 6) => absurd z (by omega), fun (z : op = 7) => absurd z (by omega), fun (z : op = 5) => absurd z (by omega)⟩ (la_act (x := (op, -1, -1, -1, nI m, none, none, nI AL.length, th)) V.2.1 (show op ≤ 5 by omega) rfl) (ld_add V.2.1 V.2.2.2.1 (by rw [ln_a]; omega) ext_g) V.2.2.2.2
theorem j_mon {op cd : Nat} {a1 : Int32} (Q : CQ h B) (R : RZ g) (J : JP Z Z2 B tp n cnt j0 th ne SL kd A A2 tc j hd st E AL ow lb mb mk dn) (hT : TLn tp n j0 tc = RN SL E) (hc : (tk tp n j).1 = cd) (hop : (cd = 204 ∧ a1 = 1 ∧ op = 3) ∨ (cd = 205 ∧ a1 = 0 ∧ op = 4)) :
    JG Z Z2 B h g tp n cnt j0 th ne SL kd tc st E AL dn [] (fun _ => True) (f_X6_readMonitorStatement 68 (nI op) (sA h A)) (b_X11_statement_79 rc 102 (nI (tk tp n j).2.1) (sA g A2)) ∨ JF Z Z2 B h g tp n (f_X6_readMonitorStatement 68 (nI op) (sA h A)) (b_X11_statement_79 rc 102 (nI (tk tp n j).2.1) (sA g A2)) := by
  have J' := J
  obtain ⟨S, S2, I, V, ⟨b1, b2, b3⟩, NP, SLb, NT⟩ := J
  have hn := S2.1.2.1
  have bnd := S2.2.2.2.2.2.2.2.2.2
  have hcd : cd = 204 ∨ cd = 205 := hop.elim (fun z => Or.inl z.1) (fun z => Or.inr z.1)
  have ho34 : op = 3 ∨ op = 4 := hop.elim (fun z => Or.inl z.2.2) (fun z => Or.inr z.2.2)
  have hgr : ((tk tp n j).1 = 204 ∧ a1 = 1) ∨ ((tk tp n j).1 = 205 ∧ a1 = 0) := hop.elim (fun z => Or.inl ⟨hc.trans z.1, z.2.1⟩) (fun z => Or.inr ⟨hc.trans z.1, z.2.1⟩)
  have hao : (op = 3 ∧ a1 = 1) ∨ (op = 4 ∧ a1 = 0) := hop.elim (fun z => Or.inl ⟨z.2.2, z.2.1⟩) (fun z => Or.inr ⟨z.2.2, z.2.1⟩)
  have P := tk_pl (tp := tp) (n := n) (j := j) hn
  have hc0 : (tk tp n j).1 ≠ 0 := by omega
  have p1 := P.2.2 hc0
  have j1 := cs_j S hc0
  have hSL : 0 < SL.length := by omega
  have ej : j = j0 + tc := S2.2.2.2.2.2.2.2.2.1.2.1 hSL
  have i6 : A2 107 6 = nI AL.length := S2.2.2.2.1.1
  have e6 : A2 107 6 = 8 ↔ AL.length = 8 := by
    rw [i6]; exact nI_eq (b := 8) (by omega) (by omega)
  have c4 : ¬ (tk tp n j).1 / 100 = 4 := by omega
  have hco : (op = 3 ∧ (tk tp n j).1 = 204) ∨ (op = 4 ∧ (tk tp n j).1 = 205) := hop.elim (fun z => Or.inl ⟨z.2.2, hc.trans z.1⟩) (fun z => Or.inr ⟨z.2.2, hc.trans z.1⟩)
  clear hop
  -- the reference with a fault at the statement's place
  have wk : ∀ K1, (if AL.length = 8 then bd (if st = 20 then 4 else 0) 4 else (if st = 20 then 4 else 0)) = K1 → 0 < K1 → K1 ≤ 4 → ∃ v A', b_X11_statement_79 rc 102 (nI (tk tp n j).2.1) (sA g A2) = some (v, sA g A') ∧ (v = 0 ∨ v = 1) ∧ FT Z2 tp n K1 (tk tp n j).2.1 A' := fun K1 e1 hK hK4 => by
    obtain ⟨A3, x1, x2, x3⟩ := w_cnt (rc := rc) (p := (tk tp n j).2.1) R (rr_wb S2) S2.2.2.2.1.2.2.1 bnd.2.2.2.1 (by omega)
    rw [x1, if_neg c4, d_grd R x2.1 hgr]
    have e1' : (if A3 107 6 = 8 then bd (if st = 20 then 4 else 0) 4 else (if st = 20 then 4 else 0)) = K1 := by
      rw [x3 _ _ (by omega) (by omega), ← e1]
      by_cases z : AL.length = 8
      · rw [if_pos z, if_pos (e6.mpr z)]
      · rw [if_neg z, if_neg (fun w => z (e6.mp w))]
    obtain ⟨v, A4, y1, y2, y3⟩ := w_guards (a1 := a1) R x2 (by omega) rfl hc0 K1 e1' hK hK4
    exact ⟨v, A4, bz y1 y2, y2, y3⟩
  unfold f_X6_readMonitorStatement b_X6_readMonitorStatement_0
  rw [q_68 Q, Option.bind_some, c_pl Q, Option.bind_some, (c_sv S).2.2, q_v Q.1.1, Option.bind_some]
  obtain ⟨k1, A1, x1, x2⟩ | ⟨k1, A1, x1, x2⟩ := c_cnt Q S
  · rw [x1, Option.bind_some, if_neg n10]
    unfold b_X6_readMonitorStatement_15
    rw [q_v Q.1.1, Option.bind_some]
    obtain ⟨k2, y1⟩ | ⟨k2, A3, y1, y2⟩ := c_may Q x2
    · rw [y1, Option.bind_some, if_neg n10]
      unfold b_X6_readMonitorStatement_24
      obtain ⟨A4, z1, z2, -⟩ := c_adv Q x2 (by omega)
      rw [q_68 Q, Option.bind_some, q_v Q.2.2.2.2.2.2.1, Option.bind_some, z1, Option.bind_some, q_68 Q, Option.bind_some, c_k Q, Option.bind_some]
      -- the reference
      obtain ⟨B1, r1, r2, -⟩ := s_cnt (rc := rc) (q := nI (tk tp n j).2.1) R S2 k1
      obtain ⟨B2, u1, u2', u3⟩ := r_next R r2 hSL (by omega)
      have refeq : ∀ v H, (f_X11_kindOf 102 (sA g B2)).bind (fun q4 => if q4.1 = 5 then b_X11_guards_41 102 a1 (nI (tk tp n j).2.1) q4.2 else b_X11_guards_30 102 q4.2) = some (v, H) → (v = 0 ∨ v = 1) → b_X11_statement_79 rc 102 (nI (tk tp n j).2.1) (sA g A2) = some (v, H) := fun v H e hv => by
        rw [r1, if_neg c4, d_grd R r2.1 hgr]
        refine bz ?_ hv
        unfold f_X11_guards b_X11_guards_0
        rw [v_r7 R, Option.bind_some, show l_i (sA g B1) 107 (6 : Int32) = _ from v_l7 (k := 6) R (by omega), Option.bind_some, r2.2.2.2.1.1, if_neg (show ¬ nI AL.length = (8 : Int32) from fun y => absurd ((nI_eq (a := AL.length) (b := 8) (by omega) (by omega)).mp y) (by omega))]
        unfold b_X11_guards_18
        rw [v_v R, Option.bind_some, u1, Option.bind_some, v_v R, Option.bind_some]
        exact e
      rw [w_kind R u2'.1, Option.bind_some] at refeq
      have C1 := cd_3 (tk_code (tp := tp) (n := n) (j := j + 1))
      by_cases c5 : (tk tp n (j + 1)).1 / 100 = 5
      · rw [if_pos ((ct_13 z2).mpr c5)]
        rw [if_pos (kf_p (v := 5) c5 rfl)] at refeq
        have m2 := C1.2.2.1 c5
        have cw : cw1 (tk tp n (j + 1)).1 = (tk tp n (j + 1)).1 % 100 + 1 := cw1_w (by omega) (by omega)
        have dm := dm100 (c := (tk tp n (j + 1)).1)
        unfold b_X6_readMonitorStatement_48
        rw [q_68 Q, Option.bind_some, c_w Q, Option.bind_some, c_wh z2 cw, q_i Q.1.1, Option.bind_some, z2.2.1.2.1]
        generalize hm : (tk tp n (j + 1)).1 % 100 = m at *
        rw [and1 m m2]
        have h18 : B2 102 18 = nI hd := u2'.2.1.2.2.2.1
        -- a fault of the monitor
        have w5 : (nI hd >>> (nI m &&& 31)) &&& 1 = (if a1 = 0 then 0 else 1) → ∃ v A', b_X11_statement_79 rc 102 (nI (tk tp n j).2.1) (sA g A2) = some (v, sA g A') ∧ (v = 0 ∨ v = 1) ∧ FT Z2 tp n 5 (tk tp n j).2.1 A' := fun hb => by
          obtain ⟨v, B3, m1, m2', m3⟩ := w_g41 (p := (tk tp n j).2.1) (a1 := a1) (m := m) R (rr_wb u2') (by omega) (by omega) hm 5 5 (by rw [h18, if_pos hb]; rfl) (by rw [u2'.2.2.2.1.1, if_neg (show ¬ nI AL.length = (8 : Int32) from fun y => absurd ((nI_eq (a := AL.length) (b := 8) (by omega) (by omega)).mp y) (by omega))]) (by omega)
          exact ⟨v, B3, refeq _ _ m1 m2', m2', m3⟩
        have c91 : ∃ A', b_X6_readMonitorStatement_91 68 (nI (tk tp n j).2.1) (sA h A4) = some (0, sA h A') ∧ CF Z B A' 5 (tk tp n j).2.1 := by
          obtain ⟨A5, f1, f2⟩ := c_refuse (A := A4) (k := 5) (p := (tk tp n j).2.1) Q z2.1.2.2.2.2.2.2
          unfold b_X6_readMonitorStatement_91
          rw [q_v Q.1.1, Option.bind_some]
          exact ⟨A5, bz (v := 0) f1 (Or.inl rfl), f2⟩
        -- what is good
        have good : ∀ hd', hd' < 4 → nI hd ^^^ ((1 : Int32) <<< (nI m &&& 31)) = nI hd' → (if a1 = 0 then nI hd &&& (((1 : Int32) <<< (nI m &&& 31)) ^^^ (-1)) else nI hd ||| ((1 : Int32) <<< (nI m &&& 31))) = nI hd' → ¬ (nI hd >>> (nI m &&& 31)) &&& 1 = (if a1 = 0 then 0 else 1) →
            JG Z Z2 B h g tp n cnt j0 th ne SL kd tc st E AL dn [] (fun _ => True) (b_X6_readMonitorStatement_98 68 (nI op) (nI m) (sA h A4)) (b_X11_statement_79 rc 102 (nI (tk tp n j).2.1) (sA g A2)) ∨ JF Z Z2 B h g tp n (b_X6_readMonitorStatement_98 68 (nI op) (nI m) (sA h A4)) (b_X11_statement_79 rc 102 (nI (tk tp n j).2.1) (sA g A2)) := fun hd' h4 hx hr hb => by
          have hB := Q.2.2.2.2.2.1
          unfold b_X6_readMonitorStatement_98
          have S5 : CS Z tp n cnt B (up_2 (up_2 A4 68 7 (nI hd')) B 15 (lbL mb m)) (j + 1) th hd' ne (st + 1) E AL SL ow lb (lbL mb m) mk dn kd := by
            refine cs_fld hB z2 (fun r k k1 k2 k3 k4 => by rw [u2 (by omega), u2 (by omega)]) (fun l hl => by rw [u2 (by omega), u2 (by omega)]; exact z2.2.2.1 l hl) ?_ ?_ ?_ u2s ?_ ?_ h4 bnd.2.2.2.2.2.2
            · rw [u2 (by omega), u2s]
            · rw [u2 (by omega), u2 (by omega)]; exact z2.2.1.2.2
            · rw [u2 (by omega), u2 (by omega)]; exact z2.2.2.2.1.2.2.2.2.1
            · rw [u2 (by omega), u2 (by omega)]; exact z2.2.2.2.1.2.2.2.2.2.2.1
            · rw [u2 (by omega), u2 (by omega)]; exact z2.2.2.2.1.2.2.2.2.2.2.2
          obtain ⟨A6, a1', a2'⟩ := c_act (op := op) (tl := -1) (bs := -1) (dg := -1) (ob := nI m) Q S5 (by omega) k2
          obtain ⟨A7, a3, a4, -⟩ := c_adv Q a2' (by omega)
          rw [q_i Q.1.1, Option.bind_some, z2.2.1.2.1, hx, q_p Q.1.1, Option.bind_some, q_co Q, Option.bind_some, q_i Q.2.2.2.2.1.1, Option.bind_some, u2 (by omega), z2.2.2.2.1.2.2.2.2.2.1, show mb ||| (1 : Int32) <<< (nI m &&& 31) = lbL mb m from rfl, q_p Q.2.2.2.2.1.1, Option.bind_some, q_co Q, Option.bind_some, q_i Q.1.1, Option.bind_some, S5.2.1.1, q_v Q.2.2.2.2.1.1, Option.bind_some, a1', Option.bind_some, q_68 Q, Option.bind_some, q_v Q.2.2.2.2.2.2.1, Option.bind_some, a3, Option.bind_some, q_v Q.1.1, Option.bind_some]
          -- the reference
          have R5 : RR Z2 tp n (up_2 (up_2 B2 102 18 (nI hd')) 107 10 (lbL mb m)) j0 (tc + 1) (j + 1) th hd' ne (st + 1) E AL SL ow lb (lbL mb m) mk dn kd := by
            refine rr_fld u2' (rt_cg u2'.1 (fun r k k1 k2 k3 => by rw [u2 (by omega), u2 (by omega)])) (fun r k k1 k2 k3 => by rw [u2 (by omega), u2 (by omega)]) (fun l hl => by rw [u2 (by omega), u2 (by omega)]; exact u2'.2.2.1 l hl) ?_ ?_ ?_ ?_ ?_ ⟨u2s, mb_L m2 u2'.2.2.2.1.2.2.2.2.1.2⟩ ?_ h4 bnd.2.2.2.2.2.2 (by omega)
            · rw [u2 (by omega), u2s]
            · rw [u2 (by omega), u2 (by omega)]; exact u2'.2.1.2.2.2.2.1
            · rw [u2 (by omega), u2 (by omega)]; exact u2'.2.1.2.2.2.2.2
            · rw [u2 (by omega), u2 (by omega)]; exact u2'.2.2.2.1.2.2.1
            · rw [u2 (by omega), u2 (by omega)]; exact u2'.2.2.2.1.2.2.2.1
            · rw [u2 (by omega), u2 (by omega)]; exact u2'.2.2.2.1.2.2.2.2.2.1
          obtain ⟨B6, t1, t2, -⟩ := s_act (op := op) (e := E.length) (ob := nI m) (tl := -1) (q := nI (tk tp n j).2.1) R R5 k2
          obtain ⟨B7, t3, t4, -⟩ := s_emit (x := (op, -1, -1, -1, nI m, none, none, nI AL.length, th)) (a0 := nI op) (a1 := nI AL.length) (a2 := nI m) (a3 := 0) (a4 := 0) R t2 (by omega) (by show op ≠ 9; omega) rfl (fun F f1 f2 f3 f4 f5 => ⟨by show _ = if op = 10 then _ else _; rw [if_neg (by omega)]; exact f1, fun (z : op = 0 ∨ op = 2) => absurd z (by omega), fun (z : op = 2) => absurd z (by omega), fun (z : op = 1) => absurd z (by omega), fun _ => ⟨f2, f3⟩, fun (z : op = 5) => absurd z (by omega), fun (z : op = 6) => absurd z (by omega), fun (z : op = 7) => absurd z (by omega), fun (z : op = 8) => absurd z (by omega)⟩)
          obtain ⟨B8, t5, t6, -⟩ := r_next R t4 hSL (by omega)
          have r142 : ∀ v H, f_X11_need 102 (700 : Int32) (sA g B8) = some (v, H) → (v = 0 ∨ v = 1) → b_X11_guards_41 102 a1 (nI (tk tp n j).2.1) (sA g B2) = some (v, H) := fun v H e hv => by
            have f142 : b_X11_guards_142 102 (nI m) (nI AL.length) 102 (nI op) (sA g B6) = some (v, H) := by
              unfold b_X11_guards_142
              rw [v_v R, Option.bind_some, t3, Option.bind_some, v_v R, Option.bind_some, t5, Option.bind_some, v_v R, Option.bind_some]
              exact bz e hv
            have f98 : b_X11_guards_98 102 a1 (nI (tk tp n j).2.1) (nI m) 102 (nI hd') (sA g B2) = some (v, H) := by
              unfold b_X11_guards_98
              rw [v_p R, Option.bind_some, v_r7 R, Option.bind_some, show l_i (sA g (up_2 B2 102 18 (nI hd'))) 107 (10 : Int32) = _ from v_l7 (k := 10) R (by omega), Option.bind_some, u2 (by omega), u2'.2.2.2.1.2.2.2.2.1.1, show mb ||| (1 : Int32) <<< (nI m &&& 31) = lbL mb m from rfl, show s_i (sA g (up_2 B2 102 18 (nI hd'))) 107 (10 : Int32) (lbL mb m) = _ from v_s7 (k := 10) R (by omega), Option.bind_some]
              rcases hao with ⟨rfl, rfl⟩ | ⟨rfl, rfl⟩
              · rw [if_neg n10]
                unfold b_X11_guards_120 b_X11_guards_125
                rw [v_v R, Option.bind_some, show f_X11_action 102 (nI (tk tp n j).2.1) (3 : Int32) (nI m) (-1) _ = _ from t1, Option.bind_some, if_neg n10]
                exact f142
              · rw [if_pos rfl]
                unfold b_X11_guards_124 b_X11_guards_125
                rw [v_v R, Option.bind_some, show f_X11_action 102 (nI (tk tp n j).2.1) (4 : Int32) (nI m) (-1) _ = _ from t1, Option.bind_some, if_pos rfl]
                exact f142
            have f72 : b_X11_guards_72 102 a1 (nI (tk tp n j).2.1) (nI m) (sA g B2) = some (v, H) := by
              unfold b_X11_guards_72
              by_cases z : a1 = 0
              · rw [if_pos z] at hr ⊢
                unfold b_X11_guards_88
                rw [v_g R, Option.bind_some, h18, hr]
                exact f98
              · rw [if_neg z] at hr ⊢
                unfold b_X11_guards_77
                rw [v_g R, Option.bind_some, h18, hr]
                exact f98
            unfold b_X11_guards_41
            rw [v_v R, Option.bind_some, w_which R u2'.1, Option.bind_some, v_g R, Option.bind_some, hm, h18]
            by_cases z : a1 = 0
            · rw [if_pos z] at hb ⊢
              unfold b_X11_guards_62 b_X11_guards_63
              rw [if_neg hb]
              exact f72
            · rw [if_neg z] at hb ⊢
              unfold b_X11_guards_58 b_X11_guards_63
              rw [if_neg hb]
              exact f72
          have C2 := tk_code (tp := tp) (n := n) (j := j + 2)
          have a4' : CS Z tp n cnt B A7 (j + 2) th hd' ne (st + 1) (E ++ [(op, -1, -1, -1, nI m, none, none, nI AL.length, th)]) (AL ++ [(th, op, nI m, -1, E.length)]) SL ow lb (lbL mb m) mk dn kd := a4
          have t6' : RR Z2 tp n B8 j0 (tc + 2) (j + 2) th hd' ne (st + 1) (E ++ [(op, -1, -1, -1, nI m, none, none, nI AL.length, th)]) (AL ++ [(th, op, nI m, -1, E.length)]) SL ow lb (lbL mb m) mk dn kd := t6
          obtain ⟨z0', A9, z3', z4'', -⟩ | ⟨z0', A9, z3', z4''⟩ := c_pass (k := 15) Q a4' (by omega) (by omega)
          · left
            have e700 := (ckd_al2 C2).2.2.2.2.1.mp z0'
            obtain ⟨-, B9, s1', s2'', -⟩ | ⟨s0, B9, s1', s2''⟩ := s_need (c := 700) R t6' hSL (by omega) (by omega)
            · refine jg_mk J' (bz (v := 1) (H := sA h A9) z3' (Or.inr rfl)) (refeq _ _ (r142 _ _ s1' (Or.inr rfl)) (Or.inr rfl)) z4'' s2'' I (lv_mo V b1 bnd.2.1 bnd.2.2.1 ho34 m2) ?_ (by omega) (fun (z : op = 7 ∨ op = 8) => absurd z (by omega)) ⟨_, rfl⟩ (fun _ => rfl) (hz := by rcases ho34 with z | z <;> subst z <;> rfl)
              rw [tln_s, show tc + 2 = tc + 1 + 1 by omega, tln_s, tln_s, hT, ← ej, show j0 + (tc + 1) = j + 1 by omega, show j0 + (tc + 1 + 1) = j + 2 by omega, e700, List.append_assoc, List.append_assoc]
              have em : (tk tp n (j + 1)).1 = 500 + m := by omega
              rw [em]
              unfold rne
              rcases hco with ⟨rfl, hk⟩ | ⟨rfl, hk⟩
              · show _ = _ ++ [204, 500 + ix (nI m), 700]
                rw [ix_nI (by omega), hk]
                rfl
              · show _ = _ ++ [205, 500 + ix (nI m), 700]
                rw [ix_nI (by omega), hk]
                rfl
            · exact absurd e700 s0
          · right
            obtain ⟨s0, B9, s1', s2'', -⟩ | ⟨s0, B9, s1', s2''⟩ := s_need (c := 700) R t6' hSL (by omega) (by omega)
            · exact absurd ((ckd_al2 C2).2.2.2.2.1.mpr s0) z0'
            · exact ⟨1, _, A9, B9, 0, bz (v := 0) (H := sA h A9) z3' (Or.inl rfl), z4'', refeq _ _ (r142 _ _ s1' (Or.inl rfl)) (Or.inl rfl), Or.inl rfl, s2''⟩
        have bit := hd_bit hd bnd.2.2.2.2.2.1 m m2
        have e34 : ∀ s0 : Int32, b_X6_readMonitorStatement_74 68 (nI op) (nI (tk tp n j).2.1) (nI m) s0 (sA h A4) = if s0 = (if a1 = 0 then 0 else 1) then b_X6_readMonitorStatement_91 68 (nI (tk tp n j).2.1) (sA h A4) else b_X6_readMonitorStatement_98 68 (nI op) (nI m) (sA h A4) := fun s0 => by
          unfold b_X6_readMonitorStatement_74
          rcases hao with ⟨rfl, rfl⟩ | ⟨rfl, rfl⟩
          · rw [if_pos (show nI 3 = (3 : Int32) from rfl), if_neg n10]
            rfl
          · rw [if_neg (show ¬ nI 4 = (3 : Int32) by decide), if_pos rfl]
            rfl
        rcases bit with ⟨bt0, bt1, bt2, bt3, bt4⟩ | ⟨bt0, bt1, bt2, bt3⟩
        · rw [if_pos bt0]
          unfold b_X6_readMonitorStatement_73
          rw [e34]
          by_cases z : a1 = 0
          · right
            rw [if_pos z, if_pos rfl]
            obtain ⟨A5, f1, f2⟩ := c91
            obtain ⟨v, B3, m1, m2', m3⟩ := w5 (by rw [if_pos z]; exact bt0)
            exact ⟨5, _, A5, B3, v, f1, f2, m1, m2', m3⟩
          · rw [if_neg z, if_neg (show ¬ (0 : Int32) = 1 by decide)]
            exact good _ bt4 bt2 (by rw [if_neg z]; exact bt3) (by rw [if_neg z, bt0]; decide)
        · rw [if_neg (by rw [bt0]; decide)]
          unfold b_X6_readMonitorStatement_69
          rw [e34]
          by_cases z : a1 = 0
          · rw [if_pos z, if_neg n10]
            exact good (hd - 2 ^ m) (Nat.lt_of_le_of_lt (Nat.sub_le _ _) bnd.2.2.2.2.2.1) bt2 (by rw [if_pos z]; exact bt3) (by rw [if_pos z, bt0]; decide)
          · right
            rw [if_neg z, if_pos rfl]
            obtain ⟨A5, f1, f2⟩ := c91
            obtain ⟨v, B3, m1, m2', m3⟩ := w5 (by rw [if_neg z]; exact bt0)
            exact ⟨5, _, A5, B3, v, f1, f2, m1, m2', m3⟩
      · right
        rw [if_neg (fun z => c5 ((ct_13 z2).mp z))]
        rw [if_neg (kf_n (v := 5) c5 rfl (by omega) (by omega))] at refeq
        obtain ⟨A5, f1, f2⟩ := c_rt Q z2
        obtain ⟨B3, m1, m2⟩ := s_bad1 R u2'
        refine ⟨1, _, A5, B3, 0, ?_, f2, refeq _ _ m1 (Or.inl rfl), Or.inl rfl, m2⟩
        unfold b_X6_readMonitorStatement_43
        rw [q_v Q.1.1, Option.bind_some]
        exact bz f1 (Or.inl rfl)
    · right
      obtain ⟨v, A4, r1, r2, r3⟩ := wk 4 (by rw [if_pos k2, if_neg (by omega)]; rfl) (by omega) (by omega)
      refine ⟨4, _, A3, A4, v, ?_, y2, r1, r2, r3⟩
      rw [y1, Option.bind_some, if_pos rfl]
      exact ok_z_0
  · right
    obtain ⟨v, A4, r1, r2, r3⟩ := wk 4 (by rw [if_pos k1]; split <;> rfl) (by omega) (by omega)
    refine ⟨4, _, A1, A4, v, ?_, x2, r1, r2, r3⟩
    rw [x1, Option.bind_some, if_pos rfl]
    exact ok_z_0
end
