/-! ===== the two readers together: done ===== -/
section
variable {Z Z2 : Nat → Nat → Int32} {tp : Nat → Nat} {n cnt B : Nat} {h g : AH} {A A2 A' A2' : Nat → Nat → Int32} {j0 tc j th hd ne st b p tc' j' hd' : Nat} {E : List Ent} {AL AL' : List Act} {SL : List Nat} {ow ow' : Nat → Int32} {lb mb mk dn lb' mb' mk' dn' : Int32} {kd : Nat → Int32} {rc : Nat → Int32 → AH → Option (Int32 × AH)} {x : Ent} {rC rR : Option (Int32 × AH)}
theorem lv_dn (V : LV th E AL SL ow mk dn kd) (b1 : SL.length = th + 1) (h4 : SL.length ≤ 4) (h8 : AL.length < 8) (hd : dn = -1) (NP : ∀ x, x ∈ E → npE x) : LV th (E ++ [(5, -1, -1, -1, -1, none, none, nI AL.length, th)]) (AL ++ [(th, 5, -1, -1, E.length)]) SL ow (nI th) (nI AL.length) kd := by
  have L2 : LD SL.length (E ++ [(5, -1, -1, -1, -1, none, none, nI AL.length, th)]) (AL ++ [(th, 5, -1, -1, E.length)]) (nI th) (nI AL.length) := by
    refine ⟨fun _ => nI_ne1 (by omega), Or.inr ⟨th, by omega, rfl⟩, Or.inr ⟨AL.length, by rw [ln_a]; exact Nat.lt_succ_self _, rfl, by rw [gd_e], by rw [gd_e], fun e he ht ho => ?_⟩⟩
    rw [gd_e] at he ht ⊢
    have he' : e < E.length := he
    rw [gd_l he'] at ht ho ⊢
    have hm : E.getD e dE ∈ E := by
      rw [List.getD_eq_getElem?_getD, List.getElem?_eq_getElem he']
      exact List.getElem_mem he'
    have := NP _ hm ho
    cases hj : en_jp (E.getD e dE) with
    | none => exact absurd hj this
    | some y =>
      have := ((V.1 e he').1.2.2.2.2 ho y hj).2.2.1
      exact ⟨y, rfl, Nat.le_of_lt this⟩
  exact lv_gen V b1 h4 (Nat.le_of_lt h8) rfl (show (5 : Nat) ≠ 10 by decide) rfl (by rw [ln_a]; omega) ext_g (fun _ _ _ => rfl) (Or.inr hd) ⟨show 5 ≤ 10 by decide, fun _ => ⟨AL.length, by rw [ln_a]; exact Nat.lt_succ_self _, rfl, by rw [gd_e]⟩, fun (z : 6 ≤ 5) => absurd z (by decide), fun (z : 5 = 0 ∨ 5 = 1 ∨ 5 = 2) => absurd z (by decide), fun (z : 5 = 3 ∨ 5 = 4) => absurd z (by decide), fun (z : 5 = 0 ∨ 5 = 2 ∨ 5 = 6 ∨ 5 = 7) => absurd z (by decide), fun (z : 5 = 2) => absurd z (by decide), fun (z : 5 = 1 ∨ 5 = 6) => absurd z (by decide), fun (z : 5 = 7) => absurd z (by decide), fun _ => rfl⟩ (la_act (x := (5, -1, -1, -1, -1, none, none, nI AL.length, th)) V.2.1 (show 5 ≤ 5 by decide) rfl) L2 V.2.2.2.2
theorem j_done (Q : CQ h B) (R : RZ g) (J : JP Z Z2 B tp n cnt j0 th ne SL kd A A2 tc j hd st E AL ow lb mb mk dn) (hT : TLn tp n j0 tc = RN SL E) (hc : (tk tp n j).1 = 206) :
    JG Z Z2 B h g tp n cnt j0 th ne SL kd tc st E AL dn [] (fun _ => True) (f_X6_readDone 68 (sA h A)) (b_X11_statement_79 rc 102 (nI (tk tp n j).2.1) (sA g A2)) ∨ JF Z Z2 B h g tp n (f_X6_readDone 68 (sA h A)) (b_X11_statement_79 rc 102 (nI (tk tp n j).2.1) (sA g A2)) := by
  have J' := J
  obtain ⟨S, S2, I, V, ⟨b1, b2, b3⟩, NP, SLb, NT⟩ := J
  have hn := S2.1.2.1
  have bnd := S2.2.2.2.2.2.2.2.2.2
  have P := tk_pl (tp := tp) (n := n) (j := j) hn
  have hc0 : (tk tp n j).1 ≠ 0 := by omega
  have j1 := cs_j S hc0
  have hSL : 0 < SL.length := by omega
  have ej : j = j0 + tc := S2.2.2.2.2.2.2.2.2.1.2.1 hSL
  have i6 : A2 107 6 = nI AL.length := S2.2.2.2.1.1
  have e6 : A2 107 6 = 8 ↔ AL.length = 8 := by
    rw [i6]; exact nI_eq (b := 8) (by omega) (by omega)
  have mki := mk_iff S2 V.2.2.2.1.1
  have c4 : ¬ (tk tp n j).1 / 100 = 4 := by omega
  have hB := Q.2.2.2.2.2.1
  have th4 := bnd.2.2.2.2.1
  have wk : ∀ K1 K2, (if AL.length = 8 then bd (if st = 20 then 4 else 0) 4 else (if st = 20 then 4 else 0)) = K1 → (if (mkL mk th = nI th ∧ ne = 0 ∧ dn = -1) then K1 else bd K1 6) = K2 → 0 < K2 → ∃ v A', b_X11_statement_79 rc 102 (nI (tk tp n j).2.1) (sA g A2) = some (v, sA g A') ∧ (v = 0 ∨ v = 1) ∧ FT Z2 tp n K2 (tk tp n j).2.1 A' := fun K1 K2 e1 e2 hK => by
    obtain ⟨A3, x1, x2, x3⟩ := w_cnt (rc := rc) (p := (tk tp n j).2.1) R (rr_wb S2) S2.2.2.2.1.2.2.1 bnd.2.2.2.1 (by omega)
    rw [x1, if_neg c4, d_say R x2.1 (Or.inl hc), if_pos hc]
    have e1' : (if A3 107 6 = 8 then bd (if st = 20 then 4 else 0) 4 else (if st = 20 then 4 else 0)) = K1 := by
      rw [x3 _ _ (by omega) (by omega), ← e1]
      by_cases z : AL.length = 8
      · rw [if_pos z, if_pos (e6.mpr z)]
      · rw [if_neg z, if_neg (fun w => z (e6.mp w))]
    have mkc : mkC A3 ↔ (mkL mk th = nI th ∧ ne = 0 ∧ dn = -1) := by
      refine Iff.trans ?_ mki
      unfold mkC
      rw [x3 107 11 (by omega) (by omega), x3 102 17 (by omega) (by omega), x3 102 19 (by omega) (by omega), x3 102 20 (by omega) (by omega)]
    have e2' : (if mkC A3 then K1 else bd K1 6) = K2 := by
      rw [← e2]
      by_cases y : mkL mk th = nI th ∧ ne = 0 ∧ dn = -1
      · rw [if_pos y, if_pos (mkc.mpr y)]
      · rw [if_neg y, if_neg (fun w => y (mkc.mp w))]
    obtain ⟨v, A4, y1, y2, y3⟩ := w_says R x2 (by omega) rfl hc0 K1 K2 e1' e2' hK
    exact ⟨v, A4, bz y1 y2, y2, y3⟩
  unfold f_X6_readDone b_X6_readDone_0
  rw [q_v Q.1.1, Option.bind_some]
  obtain ⟨k1, A1, x1, x2⟩ | ⟨k1, A1, x1, x2⟩ := c_cnt Q S
  · rw [x1, Option.bind_some, if_neg n10]
    unfold b_X6_readDone_7
    rw [q_v Q.1.1, Option.bind_some]
    obtain ⟨k2, y1⟩ | ⟨k2, A3, y1, y2⟩ := c_may Q x2
    · rw [y1, Option.bind_some, if_neg n10]
      unfold b_X6_readDone_14
      rw [q_v Q.1.1, Option.bind_some]
      obtain ⟨m0, A5, m1, m2⟩ | ⟨m0, A5, m1, m2⟩ := c_mk Q x2
      · rw [m1, Option.bind_some, if_neg n10]
        unfold b_X6_readDone_23
        have m2' : CS Z tp n cnt B A5 j th hd ne (st + 1) E AL SL ow lb mb (nI th) dn kd := by rw [← m0.1]; exact m2
        have S5 : CS Z tp n cnt B (up_2 A5 B 17 (nI AL.length)) j th hd ne (st + 1) E AL SL ow lb mb (nI th) (nI AL.length) kd := by
          refine cs_fld hB m2' (fun r k k1 k2 k3 k4 => by rw [u2 (by omega)]) (fun l hl => by rw [u2 (by omega)]; exact m2'.2.2.1 l hl) ?_ ?_ ?_ ?_ ?_ u2s bnd.2.2.2.2.2.1 bnd.2.2.2.2.2.2
          · rw [u2 (by omega)]; exact m2'.2.1.2.1
          · rw [u2 (by omega)]; exact m2'.2.1.2.2
          · rw [u2 (by omega)]; exact m2'.2.2.2.1.2.2.2.2.1
          · rw [u2 (by omega)]; exact m2'.2.2.2.1.2.2.2.2.2.1
          · rw [u2 (by omega)]; exact m2'.2.2.2.1.2.2.2.2.2.2.1
        obtain ⟨A6, a1', a2'⟩ := c_act (op := 5) (tl := -1) (bs := -1) (dg := -1) (ob := -1) Q S5 (by omega) k2
        obtain ⟨A7, a3, a4, -⟩ := c_adv Q a2' (by omega)
        rw [q_co Q, Option.bind_some, Option.bind_some, q_i Q.2.2.2.2.1.1, Option.bind_some, m2'.2.2.2.1.2.2.1, q_p Q.2.2.2.2.1.1, Option.bind_some, q_co Q, Option.bind_some, q_i Q.1.1, Option.bind_some, S5.2.1.1, q_v Q.2.2.2.2.1.1, Option.bind_some, show f_X0_addAction B (nI th) (5 : Int32) (-1) (-1) (-1) (-1) _ = _ from a1', Option.bind_some, q_68 Q, Option.bind_some, q_v Q.2.2.2.2.2.2.1, Option.bind_some, a3, Option.bind_some, q_v Q.1.1, Option.bind_some]
        obtain ⟨B1, r1, r2, -⟩ := s_cnt (rc := rc) (q := nI (tk tp n j).2.1) R S2 k1
        obtain ⟨B2, t1, t2, -⟩ := s_act (op := 5) (e := E.length) (ob := -1) (tl := -1) (q := nI (tk tp n j).2.1) R r2 k2
        obtain ⟨B3, t3, t4, -⟩ := s_mk (q := nI (tk tp n j).2.1) R t2 m0
        have R5 : RR Z2 tp n (up_2 B3 102 20 1) j0 tc j th hd ne (st + 1) E (AL ++ [(th, 5, -1, -1, E.length)]) SL ow lb mb (nI th) (nI AL.length) kd := by
          refine rr_fld t4 (rt_cg t4.1 (fun r k k1 k2 k3 => u2 (by omega))) (fun r k k1 k2 k3 => u2 (by omega)) (fun l hl => by rw [u2 (by omega)]; exact t4.2.2.1 l hl) ?_ ?_ ?_ ?_ ?_ ?_ ?_ bnd.2.2.2.2.2.1 bnd.2.2.2.2.2.2 (by omega)
          · rw [u2 (by omega)]; exact t4.2.1.2.2.2.1
          · rw [u2 (by omega)]; exact t4.2.1.2.2.2.2.1
          · rw [u2s, if_pos ⟨nI_ne1 (by omega), rfl⟩]
          · rw [u2 (by omega)]; exact t4.2.2.2.1.2.2.1
          · rw [u2 (by omega)]; exact t4.2.2.2.1.2.2.2.1
          · rw [u2 (by omega)]; exact t4.2.2.2.1.2.2.2.2.1
          · rw [u2 (by omega), ← m0.1]; exact t4.2.2.2.1.2.2.2.2.2.1
        obtain ⟨B6, t5, t6, -⟩ := s_emit (x := (5, -1, -1, -1, -1, none, none, nI AL.length, th)) (a0 := 5) (a1 := nI AL.length) (a2 := 0) (a3 := 0) (a4 := 0) R R5 (by omega) (by show (5 : Nat) ≠ 9; decide) rfl (fun F f1 f2 f3 f4 f5 => ⟨f1, fun (z : 5 = 0 ∨ 5 = 2) => absurd z (by decide), fun (z : 5 = 2) => absurd z (by decide), fun (z : 5 = 1) => absurd z (by decide), fun (z : 5 = 3 ∨ 5 = 4) => absurd z (by decide), fun _ => f2, fun (z : 5 = 6) => absurd z (by decide), fun (z : 5 = 7) => absurd z (by decide), fun (z : 5 = 8) => absurd z (by decide)⟩)
        obtain ⟨B8, t7, t8, -⟩ := r_next R t6 hSL (by omega)
        have refeq : ∀ v H, f_X11_need 102 (700 : Int32) (sA g B8) = some (v, H) → (v = 0 ∨ v = 1) → b_X11_statement_79 rc 102 (nI (tk tp n j).2.1) (sA g A2) = some (v, H) := fun v H e hv => by
          rw [r1, if_neg c4, d_say R r2.1 (Or.inl hc), if_pos hc]
          refine bz ?_ hv
          unfold f_X11_says b_X11_says_0
          rw [v_v R, Option.bind_some, show f_X11_action 102 (nI (tk tp n j).2.1) (5 : Int32) (-1) (-1) (sA g B1) = _ from t1, Option.bind_some, v_v R, Option.bind_some, t3, Option.bind_some, show p_z (sA g B3) 102 11 20 1 = some (sA g (up_2 B3 102 20 1)) from if_pos ⟨R.1, Or.inr rfl⟩, Option.bind_some, v_v R, Option.bind_some, t5, Option.bind_some, v_v R, Option.bind_some, t7, Option.bind_some, v_v R, Option.bind_some]
          exact bz e hv
        have C2 := tk_code (tp := tp) (n := n) (j := j + 1)
        obtain ⟨z0', A9, z3', z4'', -⟩ | ⟨z0', A9, z3', z4''⟩ := c_pass (k := 15) Q a4 (by omega) (by omega)
        · left
          have e700 := (ckd_al2 C2).2.2.2.2.1.mp z0'
          obtain ⟨-, B9, s1', s2'', -⟩ | ⟨s0, B9, s1', s2''⟩ := s_need (c := 700) R t8 hSL (by omega) (by omega)
          · refine jg_mk J' (bz (v := 1) (H := sA h A9) z3' (Or.inr rfl)) (refeq _ _ s1' (Or.inr rfl)) z4'' s2'' I (lv_dn V b1 bnd.2.1 k2 m0.2.2 (NP m0.2.1)) ?_ (by omega) (fun (z : 5 = 7 ∨ 5 = 8) => absurd z (by decide)) ⟨_, rfl⟩ (fun z => absurd m0.2.1 (by omega))
            rw [tln_s, tln_s, hT, ← ej, show j0 + (tc + 1) = j + 1 by omega, e700, hc, List.append_assoc]
            rfl
          · exact absurd e700 s0
        · right
          obtain ⟨s0, B9, s1', s2'', -⟩ | ⟨s0, B9, s1', s2''⟩ := s_need (c := 700) R t8 hSL (by omega) (by omega)
          · exact absurd ((ckd_al2 C2).2.2.2.2.1.mpr s0) z0'
          · exact ⟨1, _, A9, B9, 0, bz (v := 0) (H := sA h A9) z3' (Or.inl rfl), z4'', refeq _ _ s1' (Or.inl rfl), Or.inl rfl, s2''⟩
      · right
        obtain ⟨v, A6, f1, f2, f3⟩ := wk 0 6 (by rw [if_neg (by omega), if_neg (by omega)]) (by rw [if_neg m0]; rfl) (by omega)
        refine ⟨6, _, A5, A6, v, ?_, m2, f1, f2, f3⟩
        rw [m1, Option.bind_some, if_pos rfl]
        exact ok_z_0
    · right
      obtain ⟨v, A4, r1, r2, r3⟩ := wk 4 4 (by rw [if_pos k2, if_neg (by omega)]; rfl) (by split <;> rfl) (by omega)
      refine ⟨4, _, A3, A4, v, ?_, y2, r1, r2, r3⟩
      rw [y1, Option.bind_some, if_pos rfl]
      exact ok_z_0
  · right
    obtain ⟨v, A4, r1, r2, r3⟩ := wk 4 4 (by rw [if_pos k1]; split <;> rfl) (by split <;> rfl) (by omega)
    refine ⟨4, _, A1, A4, v, ?_, x2, r1, r2, r3⟩
    rw [x1, Option.bind_some, if_pos rfl]
    exact ok_z_0
end
