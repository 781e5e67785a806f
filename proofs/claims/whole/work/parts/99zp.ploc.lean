/-! ===== the two readers together: a LOCAL's statement ===== -/
theorem bz {X : Option (Int32 × AH)} {v : Int32} {H : AH} (e : X = some (v, H)) (hv : v = 0 ∨ v = 1) : (X.bind fun q2 => ok_z q2.1 q2.2) = some (v, H) := by
  rw [e, Option.bind_some]; exact ok_zv hv
theorem ext_g {AL Y : List Act} : ∀ m, m < AL.length → (AL ++ Y).getD m dA = AL.getD m dA := fun m hm => by
  rw [List.getD_eq_getElem?_getD, List.getD_eq_getElem?_getD, List.getElem?_append_left hm]
section
variable {Z Z2 : Nat → Nat → Int32} {tp : Nat → Nat} {n cnt B : Nat} {h g : AH} {A A2 A' A2' : Nat → Nat → Int32} {j0 tc j th hd ne st b p tc' j' hd' : Nat} {E : List Ent} {AL AL' : List Act} {SL : List Nat} {ow ow' : Nat → Int32} {lb mb mk dn lb' mb' mk' dn' : Int32} {kd : Nat → Int32} {rc : Nat → Int32 → AH → Option (Int32 × AH)} {x : Ent} {rC rR : Option (Int32 × AH)}
theorem jg_mk (J : JP Z Z2 B tp n cnt j0 th ne SL kd A A2 tc j hd st E AL ow lb mb mk dn) (eC : rC = some (1, sA h A')) (eR : rR = some (1, sA g A2'))
    (S : CS Z tp n cnt B A' j' th hd' ne (st + 1) (E ++ [x]) AL' SL ow' lb' mb' mk' dn' kd) (S2 : RR Z2 tp n A2' j0 tc' j' th hd' ne (st + 1) (E ++ [x]) AL' SL ow' lb' mb' mk' dn' kd) (I : lbI ow' lb') (V : LV th (E ++ [x]) AL' SL ow' mk' dn' kd)
    (hT : TLn tp n j0 tc' = RN SL E ++ rne x) (htc : tc' ≤ tc + 9) (hx : npE x) (hA : ∃ Y, AL' = AL ++ Y) (hd0 : 0 < ne → dn' = dn) (ho : en_op x ≤ 6 := by first | decide | (simp only [en_op]; omega)) (hz : fzb x = true := by rfl) : JG Z Z2 B h g tp n cnt j0 th ne SL kd tc st E AL dn [] (fun _ => True) rC rR := by
  obtain ⟨-, -, -, -, ⟨b1, b2, b3⟩, NP, SLb, NT⟩ := J
  refine ⟨A', A2', tc', j', hd', st + 1, E ++ [x], AL', ow', lb', mb', mk', dn', eC, eR, ⟨S, S2, I, V, ⟨b1, by rw [ln_a]; omega, by omega⟩, fun h0 y hy => ?_, fun s hs => by rw [ln_a]; have := SLb s hs; omega, by rw [nst_af hz, NT, dso_6 ho]⟩, by rw [rn_a SLb, List.append_nil]; exact hT, ⟨trivial, fun _ => Nat.lt_succ_self _⟩, ⟨by omega, by rw [ln_a]; omega, by omega⟩, ⟨[x], rfl, fun y hy => by rw [List.mem_singleton.mp hy]; exact hx⟩, hA, hd0⟩
  rcases List.mem_append.mp hy with hy | hy
  · exact NP h0 y hy
  · rw [List.mem_singleton.mp hy]; exact hx
/-- the fields of a read -/
theorem fx_rd {op l c : Nat} {fr : Int32} (hl : l < 5) (hc : c < 6) (ho : ow l = nI th) (hop : op = 0 ∨ (op = 2 ∧ kd c = 2 ∧ ∃ b, b < 5 ∧ fr = nI b ∧ ow b = nI th)) : FX (AL ++ [(th, op, nI c, nI l, E.length)]) ow kd dn E.length (op, nI l, fr, -1, nI c, none, none, nI AL.length, th) := by
  have h2 : op = 0 ∨ op = 2 := hop.elim Or.inl (fun z => Or.inr z.1)
  refine ⟨show op ≤ 10 from by omega, fun _ => ⟨AL.length, by rw [ln_a]; exact Nat.lt_succ_self _, rfl, by rw [gd_e]⟩, fun (z : 6 ≤ op) => absurd z (by omega), fun _ => ⟨c, hc, rfl, fun (z : op = 2) => ?_⟩, fun (z : op = 3 ∨ op = 4) => absurd z (by omega), fun _ => ⟨l, hl, rfl, ho⟩, fun (z : op = 2) => ?_, fun (z : op = 1 ∨ op = 6) => absurd z (by omega), fun (z : op = 7) => absurd z (by omega), fun (z : op = 5) => absurd z (by omega)⟩
  · rcases hop with o | o
    · omega
    · exact o.2.1
  · rcases hop with o | o
    · omega
    · exact o.2.2
theorem lv_rd {op l c : Nat} {fr : Int32} (V : LV th E AL SL ow mk dn kd) (b1 : SL.length = th + 1) (h4 : SL.length ≤ 4) (h8 : AL.length ≤ 8) (L3 : LO SL.length ow') (hx : ∀ l, l < 5 → ow l ≠ -1 → ow' l = ow l) (hl : l < 5) (hc : c < 6) (ho : ow' l = nI th) (hop : op = 0 ∨ (op = 2 ∧ kd c = 2 ∧ ∃ b, b < 5 ∧ fr = nI b ∧ ow' b = nI th)) : LV th (E ++ [(op, nI l, fr, -1, nI c, none, none, nI AL.length, th)]) (AL ++ [(th, op, nI c, nI l, E.length)]) SL ow' mk dn kd := by
  have h2 : op = 0 ∨ op = 2 := hop.elim Or.inl (fun z => Or.inr z.1)
  exact lv_gen V b1 h4 h8 rfl (show op ≠ 10 by omega) rfl (by rw [ln_a]; omega) ext_g hx (Or.inl rfl) (fx_rd hl hc ho hop) (la_act (x := (op, nI l, fr, -1, nI c, none, none, nI AL.length, th)) V.2.1 (show op ≤ 5 by omega) rfl) (ld_add V.2.1 V.2.2.2.1 (by rw [ln_a]; omega) ext_g) L3
theorem lv_let {l : Nat} {bs dg : Int32} (V : LV th E AL SL ow mk dn kd) (b1 : SL.length = th + 1) (h4 : SL.length ≤ 4) (h8 : AL.length ≤ 8) (L3 : LO SL.length ow') (hx : ∀ l, l < 5 → ow l ≠ -1 → ow' l = ow l) (hl : l < 5) (ho : ow' l = nI th) (hF : exF ow' th bs dg) : LV th (E ++ [(6, nI l, bs, dg, -1, none, none, -1, th)]) AL SL ow' mk dn kd := by
  refine lv_gen V b1 h4 h8 rfl (show (6 : Nat) ≠ 10 by decide) rfl (Nat.le_refl _) (fun _ _ => rfl) hx (Or.inl rfl) ⟨show 6 ≤ 10 by decide, fun (z : 6 ≤ 5) => absurd z (by decide), fun _ => rfl, fun (z : 6 = 0 ∨ 6 = 1 ∨ 6 = 2) => absurd z (by decide), fun (z : 6 = 3 ∨ 6 = 4) => absurd z (by decide), fun _ => ⟨l, hl, rfl, ho⟩, fun (z : 6 = 2) => absurd z (by decide), fun _ => hF, fun (z : 6 = 7) => absurd z (by decide), fun (z : 6 = 5) => absurd z (by decide)⟩ (la_add V.2.1) (ld_add V.2.1 V.2.2.2.1 (Nat.le_refl _) (fun _ _ => rfl)) L3
theorem j_local (Q : CQ h B) (R : RZ g) (J : JP Z Z2 B tp n cnt j0 th ne SL kd A A2 tc j hd st E AL ow lb mb mk dn) (hT : TLn tp n j0 tc = RN SL E) (c4 : (tk tp n j).1 / 100 = 4) :
    JG Z Z2 B h g tp n cnt j0 th ne SL kd tc st E AL dn [] (fun _ => True) (f_X6_readLocalStatement 68 (sA h A)) (b_X11_statement_79 rc 102 (nI (tk tp n j).2.1) (sA g A2)) ∨ JF Z Z2 B h g tp n (f_X6_readLocalStatement 68 (sA h A)) (b_X11_statement_79 rc 102 (nI (tk tp n j).2.1) (sA g A2)) := by
  have J' := J
  obtain ⟨S, S2, I, V, ⟨b1, b2, b3⟩, NP, SLb, NT⟩ := J
  have hn := S2.1.2.1
  have bnd := S2.2.2.2.2.2.2.2.2.2
  have C := cd_3 (tk_code (tp := tp) (n := n) (j := j))
  have C1 := tk_code (tp := tp) (n := n) (j := j + 1)
  have C2 := cd_3 (tk_code (tp := tp) (n := n) (j := j + 2))
  have P := tk_pl (tp := tp) (n := n) (j := j) hn
  have l5 := C.2.1 c4
  have hc0 : (tk tp n j).1 ≠ 0 := by omega
  have j1 := cs_j S hc0
  have cw : cw1 (tk tp n j).1 = (tk tp n j).1 % 100 + 1 := cw1_w (by omega) (by omega)
  have ej : j = j0 + tc := S2.2.2.2.2.2.2.2.2.1.2.1 (by omega)
  have w3 := S2.2.1.2.2.1
  have w8 := S2.2.2.1
  have dm := dm100 (c := (tk tp n j).1)
  have hSL : 0 < SL.length := by omega
  generalize hl : (tk tp n j).1 % 100 = l at *
  have oiff : (A2 108 l = -1 ∨ A2 108 l = A2 102 17) ↔ owL ow l th l = nI th := by
    rw [w8 l l5, w3]
    unfold owL
    by_cases z : ow l = -1
    · rw [if_pos z, up_same]; exact ⟨fun _ => rfl, fun _ => Or.inl z⟩
    · rw [if_neg z]; exact ⟨fun y => y.resolve_left z, Or.inr⟩
  -- the reference with a fault at the statement's place
  have wk : ∀ K, (if owL ow l th l = nI th then (if st = 20 then 4 else 0) else bd (if st = 20 then 4 else 0) 3) = K → 0 < K → ∃ v A', b_X11_statement_79 rc 102 (nI (tk tp n j).2.1) (sA g A2) = some (v, sA g A') ∧ (v = 0 ∨ v = 1) ∧ FT Z2 tp n K (tk tp n j).2.1 A' := fun K eK hK => by
    obtain ⟨A3, x1, x2, x3⟩ := w_cnt (rc := rc) (p := (tk tp n j).2.1) R (rr_wb S2) S2.2.2.2.1.2.2.1 bnd.2.2.2.1 (by omega)
    rw [x1, if_pos c4]
    unfold b_X11_statement_116
    have eK' : (if A3 108 l = -1 ∨ A3 108 l = A3 102 17 then (if st = 20 then 4 else 0) else bd (if st = 20 then 4 else 0) 3) = K := by
      rw [x3 _ _ (by omega) (by omega), x3 _ _ (by omega) (by omega), ← eK]
      by_cases o : owL ow l th l = nI th
      · rw [if_pos o, if_pos (oiff.mpr o)]
      · rw [if_neg o, if_neg (fun z => o (oiff.mp z))]
    obtain ⟨v, A4, y1, y2, y3⟩ := w_gives (l := l) R x2 (by omega) rfl hl c4 (by rw [eK']; exact hK)
    rw [eK'] at y3
    rw [v_v R, Option.bind_some]
    exact ⟨v, A4, bz y1 y2, y2, y3⟩
  unfold f_X6_readLocalStatement b_X6_readLocalStatement_0
  rw [q_v Q.1.1, Option.bind_some]
  obtain ⟨o, A1, x1, x2, -⟩ | ⟨o, A1, x1, x2⟩ := c_loc Q S I l5 cw
  · rw [x1, Option.bind_some, if_neg n10]
    unfold b_X6_readLocalStatement_7
    rw [q_v Q.1.1, Option.bind_some]
    obtain ⟨k1, A3, y1, y2⟩ | ⟨k1, A3, y1, y2⟩ := c_cnt Q x2
    · rw [y1, Option.bind_some, if_neg n10]
      unfold b_X6_readLocalStatement_16
      obtain ⟨A4, z1, z2, -⟩ := c_adv Q y2 (by omega)
      rw [q_68 Q, Option.bind_some, c_w Q, Option.bind_some, c_wh y2 cw, Option.bind_some, q_v Q.2.2.2.2.2.2.1, Option.bind_some, z1, Option.bind_some, q_v Q.1.1, Option.bind_some]
      -- the reference
      obtain ⟨B1, r1, r2, -⟩ := s_cnt (rc := rc) (q := nI (tk tp n j).2.1) R S2 k1
      obtain ⟨B2, t1, t2, -⟩ := s_loc (q := nI (tk tp n j).2.1) R r2 l5 o
      obtain ⟨B3, u1, u2', -⟩ := r_next R t2 hSL (by omega)
      have I1 := lbI_L (l := l) (th := th) l5 I
      have L31 := lo_L (l := l) V.2.2.2.2 (show th < SL.length by omega)
      have refeq : ∀ v H, (f_X11_need 102 (701 : Int32) (sA g B3)).bind (fun q8 => if q8.1 = 0 then b_X11_gives_25 q8.2 else b_X11_gives_27 102 (nI (tk tp n j).2.1) (nI l) q8.2) = some (v, H) → (v = 0 ∨ v = 1) → b_X11_statement_79 rc 102 (nI (tk tp n j).2.1) (sA g A2) = some (v, H) := fun v H e hv => by
        rw [r1, if_pos c4]
        unfold b_X11_statement_116
        rw [v_v R, Option.bind_some]
        refine bz ?_ hv
        unfold f_X11_gives b_X11_gives_0
        rw [v_v R, Option.bind_some, w_which R r2.1, Option.bind_some, v_v R, Option.bind_some, hl, t1, Option.bind_some, v_v R, Option.bind_some, u1, Option.bind_some, v_v R, Option.bind_some]
        exact e
      obtain ⟨z0, A5, z3, z4, -⟩ | ⟨z0, A5, z3, z4⟩ := c_pass (k := 16) Q z2 (by omega) (by omega)
      · have e1 : (tk tp n (j + 1)).1 = 701 := (ckd_al2 C1).2.2.2.2.2.1.mp z0
        rw [show f_X6_pass 68 (16 : Int32) (sA h A4) = _ from z3, Option.bind_some, if_neg n10]
        obtain ⟨-, B4, s1, s2, -⟩ | ⟨s0, B4, s1, s2⟩ := s_need (c := 701) R u2' hSL (by omega) (by omega)
        · rw [show f_X11_need 102 (701 : Int32) (sA g B3) = _ from s1, Option.bind_some, if_neg n10] at refeq
          have T2 : TLn tp n j0 (tc + 2) = RN SL E ++ [400 + l, 701] := by
            rw [show tc + 2 = tc + 1 + 1 by omega, tln_s, tln_s, hT, ← ej, show j0 + (tc + 1) = j + 1 by omega, e1, show (tk tp n j).1 = 400 + l by omega, List.append_assoc]
            rfl
          have z4' : CS Z tp n cnt B A5 (j + 2) th hd ne (st + 1) E AL SL (owL ow l th) (lbL lb l) mb mk dn kd := z4
          have s2' : RR Z2 tp n B4 j0 (tc + 2) (j + 2) th hd ne (st + 1) E AL SL (owL ow l th) (lbL lb l) mb mk dn kd := s2
          unfold b_X6_readLocalStatement_42
          rw [q_68 Q, Option.bind_some, c_k Q, Option.bind_some]
          by_cases c3 : (tk tp n (j + 2)).1 / 100 = 3
          · -- READ
            rw [if_pos ((ct_11 z4').mpr c3)]
            unfold b_X6_readLocalStatement_54
            rw [q_v Q.1.1, Option.bind_some]
            have g27 : b_X11_gives_27 102 (nI (tk tp n j).2.1) (nI l) (sA g B4) = b_X11_gives_35 102 (nI l) (sA g B4) := by
              unfold b_X11_gives_27
              rw [v_v R, Option.bind_some, w_kind R s2'.1, Option.bind_some, if_pos (kf_p (v := 3) c3 rfl)]
            rw [g27] at refeq
            have c6 := C2.1 c3
            obtain ⟨A6, B5, x, m1, m2, m3, m4, m5, m6, m7, -⟩ | ⟨K, p, A6, B5, v, m1, m2, m3, m4, m5⟩ := j_cell (op := 0) (l := l) (fr := -1) Q R z4' s2' (by omega) hSL (by omega) c3 rfl (Or.inl rfl)
            · left
              have m2' : b_X11_gives_35 102 (nI l) (sA g B4) = some (1, sA g B5) := m2
              subst m3
              refine jg_mk J' (bz m1 (Or.inr rfl)) (refeq _ _ m2' (Or.inr rfl)) m4 m5 I1 (lv_rd V b1 bnd.2.1 bnd.2.2.1 L31 ow_L l5 c6 o (Or.inl rfl)) ?_ (by omega) (fun z => absurd z (by show ¬ (0 = 7 ∨ 0 = 8); decide)) ⟨_, rfl⟩ (fun _ => rfl)
              rw [show tc + 2 + 2 = tc + 2 + 1 + 1 by omega, tln_s, tln_s, T2, show j0 + (tc + 2 + 1) = j + 2 + 1 by omega, show j0 + (tc + 2) = j + 2 by omega, m6, List.append_assoc, List.append_assoc]
              have dm2 := dm100 (c := (tk tp n (j + 2)).1)
              show _ = _ ++ [400 + ix (nI l), 701, 300 + ix (nI ((tk tp n (j + 2)).1 % 100)), 700]
              rw [ix_nI (by omega), ix_nI (by omega), show 300 + (tk tp n (j + 2)).1 % 100 = (tk tp n (j + 2)).1 by omega]
              rfl
            · right
              have m3' : b_X11_gives_35 102 (nI l) (sA g B4) = some (v, sA g B5) := m3
              exact ⟨K, p, A6, B5, v, bz m1 (Or.inl rfl), m2, refeq _ _ m3' m4, m4, m5⟩
          · rw [if_neg (fun z => c3 ((ct_11 z4').mp z))]
            unfold b_X6_readLocalStatement_62
            rw [q_v Q.1.1, Option.bind_some]
            have g27 : b_X11_gives_27 102 (nI (tk tp n j).2.1) (nI l) (sA g B4) = b_X11_gives_103 102 (nI (tk tp n j).2.1) (nI l) (if (tk tp n (j + 2)).1 / 100 = 4 then nI ((tk tp n (j + 2)).1 % 100) else -1) (sA g B4) := by
              unfold b_X11_gives_27
              rw [v_v R, Option.bind_some, w_kind R s2'.1, Option.bind_some, if_neg (kf_n (v := 3) c3 rfl (by omega) (by omega))]
              unfold b_X11_gives_87
              rw [v_v R, Option.bind_some, w_kind R s2'.1, Option.bind_some]
              by_cases cc : (tk tp n (j + 2)).1 / 100 = 4
              · rw [if_pos (kf_p (v := 4) cc rfl), if_pos cc]
                unfold b_X11_gives_95
                rw [v_v R, Option.bind_some, w_which R s2'.1, Option.bind_some]
              · rw [if_neg (kf_n (v := 4) cc rfl (by omega) (by omega)), if_neg cc]
                rfl
            rw [g27] at refeq
            unfold b_X11_gives_103 at refeq
            rw [v_g R, Option.bind_some, v_v R, Option.bind_some] at refeq
            have th4 := bnd.2.2.2.2.1
            have rxf : ∀ K p, rxF Z2 g tp n K p (f_X11_expression 102 (sA g B4)) → ∃ v B', b_X11_statement_79 rc 102 (nI (tk tp n j).2.1) (sA g A2) = some (v, sA g B') ∧ (v = 0 ∨ v = 1) ∧ FT Z2 tp n K p B' := fun K p ⟨v, B5, q1, q2, q3⟩ => by
              rw [q1, Option.bind_some] at refeq
              rcases q3 with ⟨rfl, q3⟩ | ⟨rfl, j5, q3, q4⟩
              · rw [if_pos rfl] at refeq
                exact ⟨0, B5, refeq _ _ ok_z_0 (Or.inl rfl), Or.inl rfl, q3⟩
              · rw [if_neg n10] at refeq
                obtain ⟨v, B6, m1, m2, m3⟩ := w_g119 (a1 := nI (tk tp n j).2.1) (a2 := nI l) (a3 := if (tk tp n (j + 2)).1 / 100 = 4 then nI ((tk tp n (j + 2)).1 % 100) else -1) R q3 (by omega) q2 q4
                exact ⟨v, B6, refeq _ _ m1 m2, m2, m3⟩
            obtain ⟨k, bs, dg, ow', lb', A6, A7, B5, e1', e2, e3, e4, e5, e6, e7, e8, e9, ⟨b', l', e10⟩, e11, e12, e13, e14, e15, e16, e17⟩ | ⟨K, p, A6, q1, q2, q3⟩ | ⟨K, p, ow', lb', A6, A7, q1, q2, q4, q5, q6, q7⟩ := j_sum Q R z4' s2' I1 hSL (by omega) (by omega) (by omega) L31 (by omega)
            · rw [e1', Option.bind_some, if_neg n10]
              rw [e8, Option.bind_some, if_neg n10] at refeq
              unfold b_X6_readLocalStatement_71
              rw [q_68 Q, Option.bind_some, c_k Q, Option.bind_some]
              have l2' := C2.2.1
              by_cases thr : (tk tp n (j + 3)).1 = 703 ∧ (tk tp n (j + 2)).1 / 100 = 4
              · -- THROUGH
                obtain ⟨f1, f2, f3, f4⟩ : A6 68 10 = -1 ∧ A6 68 9 = nI ((tk tp n (j + 2)).1 % 100) ∧ (tk tp n (j + 2)).1 / 100 = 4 ∧ owL (owL ow l th) ((tk tp n (j + 2)).1 % 100) th ((tk tp n (j + 2)).1 % 100) = nI th := e3.elim id (fun z => absurd z.2 (by omega))
                have ek : k = 1 := by
                  rcases e15 with z | z
                  · exact z
                  · exact absurd ((e16 z).1.symm.trans thr.1) (by decide)
                subst ek
                have lb2 := l2' thr.2
                rw [if_pos ((ct_19 e2).mpr thr.1)]
                unfold b_X6_readLocalStatement_83
                rw [q_i Q.1.1, Option.bind_some, f1, if_pos rfl]
                unfold b_X6_readLocalStatement_91
                obtain ⟨A8, a1, a2, a3⟩ := c_adv Q e2 (by omega)
                rw [q_68 Q, Option.bind_some, q_v Q.2.2.2.2.2.2.1, Option.bind_some, a1, Option.bind_some, q_i Q.1.1, Option.bind_some, a3 68 9 (by omega), f2, q_v Q.1.1, Option.bind_some]
                obtain ⟨B6, n1, n2, -⟩ := r_next R e9 hSL (by omega)
                have n2' : RR Z2 tp n B6 j0 (tc + 4) (j + 4) th hd ne (st + 1) E AL SL ow' lb' mb mk dn kd := n2
                have a2' : CS Z tp n cnt B A8 (j + 4) th hd ne (st + 1) E AL SL ow' lb' mb mk dn kd := a2
                have rt : b_X11_gives_119 102 (nI (tk tp n j).2.1) (nI l) (if (tk tp n (j + 2)).1 / 100 = 4 then nI ((tk tp n (j + 2)).1 % 100) else -1) (sA g B5) = (b_X11_through_18 102 (nI l) (nI ((tk tp n (j + 2)).1 % 100)) (sA g B5)).bind fun q2 => ok_z q2.1 q2.2 := by
                  unfold b_X11_gives_119
                  rw [v_g R, Option.bind_some, e9.1.1.2.2.1, show (tk tp n (j + 2 + 1)).1 = 703 from thr.1, if_pos (show nI 703 = (703 : Int32) from rfl)]
                  unfold b_X11_gives_129
                  rw [if_pos thr.2, if_neg (nI_ne1 (by omega))]
                  unfold b_X11_gives_168
                  rw [v_v R, Option.bind_some]
                  unfold f_X11_through b_X11_through_0
                  rw [v_v R, Option.bind_some, s_last R e9 (by omega), Option.bind_some, show j0 + (tc + 2 + 1) - 1 = j + 2 by omega, if_neg (show ¬ (tk tp n (j + 2)).1 / 100 = 6 by omega), if_pos rfl]
                rw [rt] at refeq
                have C4 := cd_3 (tk_code (tp := tp) (n := n) (j := j + 4))
                by_cases cc : (tk tp n (j + 4)).1 / 100 = 3
                · have r18 : b_X11_through_18 102 (nI l) (nI ((tk tp n (j + 2)).1 % 100)) (sA g B5) = b_X11_through_41 102 (nI l) (nI ((tk tp n (j + 2)).1 % 100)) (sA g B6) := by
                    unfold b_X11_through_18
                    rw [v_v R, Option.bind_some, n1, Option.bind_some, v_v R, Option.bind_some, w_kind R n2'.1, Option.bind_some, if_pos (kf_p (v := 3) cc rfl)]
                  rw [r18] at refeq
                  have c6 := C4.1 cc
                  obtain ⟨A9, B7, x, m1, m2, m3, m4, m5, m6, m7, m8⟩ | ⟨K, p, A9, B7, v, m1, m2, m3, m4, m5⟩ := j_cell (op := 2) (l := l) (fr := nI ((tk tp n (j + 2)).1 % 100)) Q R a2' n2' (by omega) hSL (by omega) cc rfl (Or.inr rfl)
                  · left
                    have m2' : b_X11_through_41 102 (nI l) (nI ((tk tp n (j + 2)).1 % 100)) (sA g B6) = some (1, sA g B7) := m2
                    subst m3
                    have ol : ow' l = nI th := by rw [e14 l l5 (by rw [o]; exact nI_ne1 (by omega)), o]
                    have ob : ow' ((tk tp n (j + 2)).1 % 100) = nI th := by
                      obtain z | ⟨bb, b1', b2', b3'⟩ := e11.1
                      · have : A7 68 9 = A6 68 9 := by
                          have pe := c_plus0 (d := 0) Q e2 f2 (Or.inr (by rw [show (tk tp n (j + 2 + 1)).1 = 703 from thr.1]; decide))
                          rw [pe] at e4
                          have := congrArg (fun z : Option (Int32 × AH) => z.map (fun y => hp_i y.2 68 9)) e4
                          exact (Option.some.inj this).symm
                        rw [e6, f2, z] at this
                        exact absurd this.symm (nI_ne1 (by omega))
                      · have : A7 68 9 = A6 68 9 := by
                          have pe := c_plus0 (d := 0) Q e2 f2 (Or.inr (by rw [show (tk tp n (j + 2 + 1)).1 = 703 from thr.1]; decide))
                          rw [pe] at e4
                          have := congrArg (fun z : Option (Int32 × AH) => z.map (fun y => hp_i y.2 68 9)) e4
                          exact (Option.some.inj this).symm
                        rw [e6, f2, b2'] at this
                        rw [← (nI_eq (by omega) (by omega)).mp this]
                        exact b3'
                    refine jg_mk J' (bz m1 (Or.inr rfl)) (refeq _ _ (bz m2' (Or.inr rfl)) (Or.inr rfl)) m4 m5 e12 (lv_rd V b1 bnd.2.1 bnd.2.2.1 e13 (fun q hq hne => by rw [e14 q hq (by rw [ow_L q hq hne]; exact hne), ow_L q hq hne]) l5 c6 ol (Or.inr ⟨rfl, m8 rfl, _, lb2, rfl, ob⟩)) ?_ (by omega) (fun z => absurd z (by show ¬ (2 = 7 ∨ 2 = 8); decide)) ⟨_, rfl⟩ (fun _ => rfl)
                    rw [show tc + 4 + 2 = tc + 2 + 1 + 1 + 1 + 1 by omega, tln_s, tln_s, tln_s, tln_s, T2, show j0 + (tc + 2 + 1 + 1 + 1) = j + 4 + 1 by omega, show j0 + (tc + 2 + 1 + 1) = j + 4 by omega, show j0 + (tc + 2 + 1) = j + 3 by omega, show j0 + (tc + 2) = j + 2 by omega, m6, thr.1, List.append_assoc, List.append_assoc, List.append_assoc, List.append_assoc]
                    have dm2 := dm100 (c := (tk tp n (j + 2)).1)
                    have dm4 := dm100 (c := (tk tp n (j + 4)).1)
                    show _ = _ ++ [400 + ix (nI l), 701, 400 + ix (nI ((tk tp n (j + 2)).1 % 100)), 703, 300 + ix (nI ((tk tp n (j + 4)).1 % 100)), 700]
                    rw [ix_nI (by omega), ix_nI (by omega), ix_nI (by omega), show 300 + (tk tp n (j + 4)).1 % 100 = (tk tp n (j + 4)).1 by omega, show 400 + (tk tp n (j + 2)).1 % 100 = (tk tp n (j + 2)).1 by omega]
                    rfl
                  · right
                    have m3' : b_X11_through_41 102 (nI l) (nI ((tk tp n (j + 2)).1 % 100)) (sA g B6) = some (v, sA g B7) := m3
                    exact ⟨K, p, A9, B7, v, bz m1 (Or.inl rfl), m2, refeq _ _ (bz m3' m4) m4, m4, m5⟩
                · right
                  have r18 : ∃ B7, b_X11_through_18 102 (nI l) (nI ((tk tp n (j + 2)).1 % 100)) (sA g B5) = some (0, sA g B7) ∧ FT Z2 tp n 1 (tk tp n (j + 4)).2.1 B7 := by
                    unfold b_X11_through_18
                    rw [v_v R, Option.bind_some, n1, Option.bind_some, v_v R, Option.bind_some, w_kind R n2'.1, Option.bind_some, if_neg (kf_n (v := 3) cc rfl (by omega) (by omega))]
                    exact s_bad1 R n2'
                  obtain ⟨B7, r1', r2'⟩ := r18
                  obtain ⟨A9, m1, m2⟩ := c_rt Q a2'
                  refine ⟨1, _, A9, B7, 0, bz (v := 0) (H := sA h A9) ?_ (Or.inl rfl), m2, refeq _ _ (bz r1' (Or.inl rfl)) (Or.inl rfl), Or.inl rfl, r2'⟩
                  unfold f_X6_readRead b_X6_readRead_0
                  rw [q_68 Q, Option.bind_some, c_k Q, Option.bind_some, if_neg (fun z => cc ((ct_11 a2').mp z))]
                  unfold b_X6_readRead_12
                  rw [q_v Q.1.1, Option.bind_some]
                  exact bz m1 (Or.inl rfl)
              · -- SET
                have cl : (if A6 69 0 = 19 then b_X6_readLocalStatement_83 68 (nI l) (sA h A6) else b_X6_readLocalStatement_109 68 (nI l) (sA h A6)) = b_X6_readLocalStatement_109 68 (nI l) (sA h A6) := by
                  by_cases d3 : (tk tp n (j + 3)).1 = 703
                  · rw [if_pos ((ct_19 e2).mpr d3)]
                    unfold b_X6_readLocalStatement_83
                    obtain z | z := e3
                    · exact absurd ⟨d3, z.2.2.1⟩ thr
                    · rw [q_i Q.1.1, Option.bind_some, if_neg z.1]
                  · rw [if_neg (fun z => d3 ((ct_19 e2).mp z))]
                rw [cl]
                unfold b_X6_readLocalStatement_109
                rw [q_v Q.1.1, Option.bind_some, e4, Option.bind_some, if_neg n10]
                unfold b_X6_readLocalStatement_118
                obtain ⟨A8, a1, a2, -⟩ := c_add (op := 6) (tl := nI l) (bs := bs) (dg := dg) (ob := -1) Q e5 (by omega)
                rw [q_co Q, Option.bind_some, q_i Q.1.1, Option.bind_some, q_i Q.1.1, Option.bind_some, e6, e7, q_v Q.2.2.2.2.1.1, Option.bind_some, show f_X0_add B (6 : Int32) (nI l) bs dg (-1) (sA h A7) = _ from a1, Option.bind_some, q_v Q.1.1, Option.bind_some]
                have Ck := tk_code (tp := tp) (n := n) (j := j + 2 + k)
                have k3 : k ≤ 3 := by omega
                -- the reference behind the expression
                have r134 : ∀ v H, b_X11_gives_134 102 (nI l) (sA g B5) = some (v, H) → ((tk tp n (j + 2 + k)).1 = 703 → (tk tp n (j + 2)).1 / 100 ≠ 4) → b_X11_gives_119 102 (nI (tk tp n j).2.1) (nI l) (if (tk tp n (j + 2)).1 / 100 = 4 then nI ((tk tp n (j + 2)).1 % 100) else -1) (sA g B5) = some (v, H) := fun v H e hne => by
                  unfold b_X11_gives_119
                  rw [v_g R, Option.bind_some, e9.1.1.2.2.1]
                  by_cases d3 : (tk tp n (j + 2 + k)).1 = 703
                  · rw [d3, if_pos (show nI 703 = (703 : Int32) from rfl), if_neg (hne d3)]
                    unfold b_X11_gives_129
                    rw [if_pos rfl]
                    exact e
                  · rw [if_neg (show ¬ nI (tk tp n (j + 2 + k)).1 = (703 : Int32) from fun z => d3 ((nI_eq (b := 703) (by have := (cd_3 Ck).2.2.2.2; omega) (by omega)).mp z))]
                    exact e
                obtain ⟨z0, A9, z3', z4'', -⟩ | ⟨z0, A9, z3', z4''⟩ := c_pass (k := 15) Q a2 (by omega) (by omega)
                · left
                  have e700 := (ckd_al2 Ck).2.2.2.2.1.mp z0
                  obtain ⟨-, B6, s1', s2'', s3''⟩ | ⟨s0, B6, s1', s2''⟩ := s_need (c := 700) R e9 hSL (by omega) (by omega)
                  · obtain ⟨B7, t1', t2', -⟩ := s_emit (x := (6, nI l, bs, dg, -1, none, none, -1, th)) (a0 := 6) (a1 := nI l) (a2 := nI b') (a3 := nI l') (a4 := B5 102 23) R s2'' (by omega) (by show (6 : Nat) ≠ 9; decide) rfl (fun F f1 f2 f3 f4 f5 => ⟨f1, fun (z : 6 = 0 ∨ 6 = 2) => absurd z (by decide), fun (z : 6 = 2) => absurd z (by decide), fun (z : 6 = 1) => absurd z (by decide), fun (z : 6 = 3 ∨ 6 = 4) => absurd z (by decide), fun (z : 6 = 5) => absurd z (by decide), fun _ => ⟨f2, b', l', e10.1, e10.2.1, f3, f4, by rw [f5]; exact e10.2.2.2.2⟩, fun (z : 6 = 7) => absurd z (by decide), fun (z : 6 = 8) => absurd z (by decide)⟩)
                    have g134 : b_X11_gives_134 102 (nI l) (sA g B5) = some (1, sA g B7) := by
                      unfold b_X11_gives_134
                      rw [v_v R, Option.bind_some, show f_X11_need 102 (700 : Int32) (sA g B5) = _ from s1', Option.bind_some, if_neg n10]
                      unfold b_X11_gives_146
                      rw [v_g R, Option.bind_some, v_g R, Option.bind_some, v_g R, Option.bind_some, v_v R, Option.bind_some, s3'' 21 (by omega) (by omega) (by omega), s3'' 22 (by omega) (by omega) (by omega), s3'' 23 (by omega) (by omega) (by omega), e10.2.2.1, e10.2.2.2.1, t1', Option.bind_some]
                      exact ok_z_1
                    have ol : ow' l = nI th := by rw [e14 l l5 (by rw [o]; exact nI_ne1 (by omega)), o]
                    refine jg_mk J' (bz (v := 1) (H := sA h A9) z3' (Or.inr rfl)) (refeq _ _ (r134 _ _ g134 (fun z => absurd (z.symm.trans e700) (by decide))) (Or.inr rfl)) z4'' t2' e12 (lv_let V b1 bnd.2.1 bnd.2.2.1 e13 (fun q hq hne => by rw [e14 q hq (by rw [ow_L q hq hne]; exact hne), ow_L q hq hne]) l5 ol e11) ?_ (by omega) (fun z => absurd z (by show ¬ (6 = 7 ∨ 6 = 8); decide)) ⟨[], by rw [List.append_nil]⟩ (fun _ => rfl)
                    rw [tln_s, e17, T2, show j0 + (tc + 2 + k) = j + 2 + k by omega, e700]
                    show _ = _ ++ ([400 + ix (nI l), 701] ++ rnx bs dg ++ [700])
                    rw [ix_nI (by omega), List.append_assoc, List.append_assoc, List.append_assoc]
                  · exact absurd e700 s0
                · right
                  have n700 : ¬ (tk tp n (j + 2 + k)).1 = 700 := fun z => z0 ((ckd_al2 Ck).2.2.2.2.1.mpr z)
                  have rf : ∃ B7, b_X11_gives_119 102 (nI (tk tp n j).2.1) (nI l) (if (tk tp n (j + 2)).1 / 100 = 4 then nI ((tk tp n (j + 2)).1 % 100) else -1) (sA g B5) = some (0, sA g B7) ∧ FT Z2 tp n 1 (tk tp n (j + 2 + k)).2.1 B7 := by
                    by_cases d3 : (tk tp n (j + 2 + k)).1 = 703 ∧ (tk tp n (j + 2)).1 / 100 = 4
                    · have ek : k = 3 := by
                        rcases e15 with z | z
                        · subst z; exact absurd d3 thr
                        · exact z
                      subst ek
                      unfold b_X11_gives_119
                      rw [v_g R, Option.bind_some, e9.1.1.2.2.1, d3.1, if_pos (show nI 703 = (703 : Int32) from rfl)]
                      unfold b_X11_gives_129
                      rw [if_pos d3.2, if_neg (nI_ne1 (by omega))]
                      unfold b_X11_gives_168
                      rw [v_v R, Option.bind_some]
                      unfold f_X11_through b_X11_through_0
                      rw [v_v R, Option.bind_some, s_last R e9 (by omega), Option.bind_some, show j0 + (tc + 2 + 3) - 1 = j + 2 + 2 by omega, if_pos (e16 rfl).2, if_neg n10]
                      obtain ⟨B7, m1, m2⟩ := s_bad1 R e9
                      exact ⟨B7, bz m1 (Or.inl rfl), m2⟩
                    · obtain ⟨s0, B6, s1', s2'', s3''⟩ | ⟨s0, B6, s1', s2''⟩ := s_need (c := 700) R e9 hSL (by omega) (by omega)
                      · exact absurd s0 n700
                      · refine ⟨B6, r134 _ _ ?_ (fun z1 z2 => d3 ⟨z1, z2⟩), s2''⟩
                        unfold b_X11_gives_134
                        rw [v_v R, Option.bind_some, show f_X11_need 102 (700 : Int32) (sA g B5) = _ from s1', Option.bind_some, if_pos rfl]
                        exact ok_z_0
                  obtain ⟨B7, m1, m2⟩ := rf
                  exact ⟨1, _, A9, B7, 0, bz (v := 0) (H := sA h A9) z3' (Or.inl rfl), z4'', refeq _ _ m1 (Or.inl rfl), Or.inl rfl, m2⟩
            · right
              obtain ⟨v, B6, m1, m2, m3⟩ := rxf K p q3
              refine ⟨K, p, A6, B6, v, ?_, q2, m1, m2, m3⟩
              rw [q1, Option.bind_some, if_pos rfl]
              exact ok_z_0
            · right
              obtain ⟨v, B6, m1, m2, m3⟩ := rxf K p q7
              refine ⟨K, p, A7, B6, v, ?_, q6, m1, m2, m3⟩
              rw [q1, Option.bind_some, if_neg n10]
              unfold b_X6_readLocalStatement_71
              rw [q_68 Q, Option.bind_some, c_k Q, Option.bind_some, if_neg (fun z => absurd ((ct_19 q2).mp z) (by rw [q4]; decide))]
              unfold b_X6_readLocalStatement_109
              rw [q_v Q.1.1, Option.bind_some, q5, Option.bind_some, if_pos rfl]
              exact ok_z_0
        · exact absurd e1 s0
      · obtain ⟨s0, B4, s1, s2, -⟩ | ⟨s0, B4, s1, s2⟩ := s_need (c := 701) R u2' hSL (by omega) (by omega)
        · exact absurd ((ckd_al2 C1).2.2.2.2.2.1.mpr s0) z0
        · right
          rw [show f_X11_need 102 (701 : Int32) (sA g B3) = _ from s1, Option.bind_some, if_pos rfl] at refeq
          refine ⟨1, _, A5, B4, 0, ?_, z4, refeq _ _ ok_z_0 (Or.inl rfl), Or.inl rfl, s2⟩
          rw [show f_X6_pass 68 (16 : Int32) (sA h A4) = _ from z3, Option.bind_some, if_pos rfl]
          exact ok_z_0
    · right
      obtain ⟨v, A4, r1, r2, r3⟩ := wk 4 (by rw [if_pos o, if_pos k1]) (by omega)
      refine ⟨4, _, A3, A4, v, ?_, y2, r1, r2, r3⟩
      rw [y1, Option.bind_some, if_pos rfl]
      exact ok_z_0
  · right
    obtain ⟨v, A4, r1, r2, r3⟩ := wk 3 (by rw [if_neg o]; split <;> rfl) (by omega)
    refine ⟨3, _, A1, A4, v, ?_, x2, r1, r2, r3⟩
    rw [x1, Option.bind_some, if_pos rfl]
    exact ok_z_0
end
