/-! ===== the reference's ahead and isSeen say what the mid picture says ===== -/
section
variable {h H : AH} {d s o t : Nat} {g F : Nat → Int32} {mo : Int32} {K : Nat → Nat → Int32} {te ow rx : Nat → Nat} {na nt sz : Nat} {V : Nat → Bool} {a : AS} {p : List Nat}
/-- in order 1 it comes to an end -/
theorem x_ahead1 (P : PR F K te ow rx na nt sz V mo) (E : RE H s F 1 mo) (hd : d < 20) (D : DR K te ow rx na nt sz 1 V (rowv H d) a p) (ht : t < nt) : ∃ x, f_X11_ahead 102 (nI d) (nI t) H = some (x, H) := by
  have Z := P.1
  have hnt := Z.2.1
  obtain ⟨e, T, -⟩ := D.1 t ht
  have rb := P.2.2.2.2.2.2.1 e (by have := T.2.1; omega)
  have hsz := Z.2.2.1
  have he := T.2.1
  rw [x_ah0 E hd (by omega) P.2.1 Z.1 (by omega) T.1 (D.2.2.2.1 t (by omega))]
  unfold b_X11_ahead_151
  rw [x_ok E, Option.bind_some, show f_X11_instr 102 (nI (rx e)) (0 : Int32) H = _ from x_ins (k := 0) E (by omega), Option.bind_some]
  split
  · unfold b_X11_ahead_161
    rw [x_o E, Option.bind_some, if_neg (by decide)]
    exact ⟨_, rfl⟩
  · exact ⟨_, rfl⟩
theorem an_f (P : PR F K te ow rx na nt sz V mo) {n : Nat} (hn : n < na) : ∃ e op, e < sz ∧ K 8 n = nI e ∧ K 0 e = nI op ∧ op ≤ 5 ∧ F (18 + 4 * n) = nI (xa_th (KP K) n) ∧ xa_th (KP K) n = te e ∧ F (18 + 4 * n + 1) = nI (xa_op (KP K) n) ∧ xa_op (KP K) n = op ∧ F (18 + 4 * n + 2) = K 4 e ∧ xa_ob (KP K) n = ix (K 4 e) ∧ xa_th (KP K) n < nt ∧ K 6 e = nI n := by
  have Z := P.1
  obtain ⟨e, op, b1, b2, b3, b4, b5, b6, b7, b8, b9, b10⟩ := kp_act Z hn
  obtain ⟨q1, q2, q3⟩ := P.2.2.2.2.1 n e hn b2 b1
  obtain ⟨k1, k2, k3, k4⟩ := kp_f Z.2.2.1 b1 b2
  exact ⟨e, op, b1, b2, b5, b6, by rw [q1, b8], b8, by rw [q2, b5, b9], b9, q3, k2, by rw [b8]; exact b10, b4⟩
theorem x_ahead (P : PR F K te ow rx na nt sz V mo) (E : RE H s F o mo) (hd : d < 20) (I : xa_in (KP K) o a) (X : xa_t (KP K) a) (D : DR K te ow rx na nt sz o V (rowv H d) a p) (ht : t < nt) (hn : xa_nx a t < na) (ho : o ≠ 1) :
    ∃ x, f_X11_ahead 102 (nI d) (nI t) H = some (x, H) ∧ mk8 x (xa_ah (KP K) V o a t (xa_nx a t) 0) := by
  have Z := P.1
  have W := kp_wf Z
  have hna := Z.1
  have hnt := Z.2.1
  have hsz := Z.2.2.1
  have ho2 := E.2.2.1
  obtain ⟨e, T, te6⟩ := D.1 t ht
  have he := T.2.1
  have rb := P.2.2.2.2.2.2.1 e (by omega)
  obtain ⟨m1, m2, m3, m4, m5⟩ := D.2.2.2.2.2.1 ho
  have h8 : K 8 (xa_nx a t) = nI e := by
    obtain ⟨-, c⟩ | c := te6
    · omega
    · exact c.2.2
  obtain ⟨e', op, b1, b2, b3, b4, b5, b6, b7, b8, b9, b10, b11, b12⟩ := an_f P hn
  have ee : e' = e := by rw [h8, nI_eq (by omega) (by omega)] at b2; exact b2.symm
  subst ee
  have rI := P.2.2.2.2.2.1 e' b1
  have F0 : F (60 + 5 * rx e' + 0) = nI op := by
    have := (rI.2.1 (by rw [b3, show (9 : Int32) = nI 9 from rfl, nI_eq (by omega) (by omega)]; omega)).2
    rw [if_neg (by rw [b3, show (10 : Int32) = nI 10 from rfl, nI_eq (by omega) (by omega)]; omega)] at this
    rw [this, b3]
  rw [x_ah0 E hd (by omega) P.2.1 hna (by omega) T.1 (D.2.2.2.1 t (by omega))]
  -- the first set
  have s0 : mk8 (if rowv H d (130 + t) = -1 then 0 else rowv H d (105 + ix (rowv H d (130 + t))) ||| ((1 : Int32) <<< (rowv H d (130 + t) &&& 31))) (fun k => ∃ l, (xa_th (KP K) l = t ∧ as_do a l) ∧ (k = l ∨ as_ea a l k)) := by
    obtain ⟨c1, c2⟩ | ⟨n, n8, c1, c2, c3, c4⟩ := m5 t ht
    · rw [if_pos c1]
      exact mk8_cg (fun k _ => ⟨False.elim, fun ⟨l, ⟨l1, l2⟩, _⟩ => c2 l l2 l1⟩) mk8_0
    · rw [if_neg (by rw [c1]; exact nI_ne1 (by omega)), c1, ix_nI (by omega)]
      refine mk8_cg (fun k _ => ?_) (mk8_or (m2 n n8) (mk8_1 n8))
      constructor
      · rintro (q | q)
        · exact ⟨n, ⟨c3, c2⟩, Or.inr q⟩
        · exact ⟨n, ⟨c3, c2⟩, Or.inl q⟩
      · rintro ⟨l, ⟨l1, l2⟩, q⟩
        by_cases el : l = n
        · subst el; exact q.symm
        · have : as_ea a n l := X.2.1 l n l2 c2 (l1.trans c3.symm) (by have := c4 l l2 l1; omega)
          obtain rfl | q := q
          · exact Or.inl this
          · exact Or.inl (X.1 _ _ _ this q)
  have s1 := m_ah1 (F := F) (k := rx e') m2 m4 na 0 _ _ (by omega) s0
  have lt8 : ∀ l, as_do a l → l < na := fun l hl => by have := (I.2.1 l hl).1; rw [kp_na Z] at this; exact this
  have s1' : mk8 (ah1 F (rowv H d) (rx e') na 0 (if rowv H d (130 + t) = -1 then 0 else rowv H d (105 + ix (rowv H d (130 + t))) ||| ((1 : Int32) <<< (rowv H d (130 + t) &&& 31)))) (fun k => ∃ l, ((xa_th (KP K) l = t ∧ as_do a l) ∨ (xa_op (KP K) (xa_nx a t) = 3 ∧ xa_op (KP K) l = 4 ∧ xa_ob (KP K) l = xa_ob (KP K) (xa_nx a t) ∧ as_do a l)) ∧ (k = l ∨ as_ea a l k)) := by
    refine mk8_cg (fun k _ => ?_) s1
    have eqv : ∀ l, as_do a l → ((F (60 + 5 * rx e' + 0) = 3 ∧ as_do a l ∧ F (18 + 4 * l + 1) = 4 ∧ F (18 + 4 * l + 2) = F (60 + 5 * rx e' + 2)) ↔ (xa_op (KP K) (xa_nx a t) = 3 ∧ xa_op (KP K) l = 4 ∧ xa_ob (KP K) l = xa_ob (KP K) (xa_nx a t) ∧ as_do a l)) := fun l hl => by
      obtain ⟨el, opl, f1, f2, f3, f4, f5, f6, f7, f8, f9, f10, f11, f12⟩ := an_f P (lt8 l hl)
      have q3 : F (60 + 5 * rx e' + 0) = 3 ↔ xa_op (KP K) (xa_nx a t) = 3 := by rw [F0, b8, show (3 : Int32) = nI 3 from rfl, nI_eq (by omega) (by omega)]
      have q4 : F (18 + 4 * l + 1) = 4 ↔ xa_op (KP K) l = 4 := by rw [f7, show (4 : Int32) = nI 4 from rfl, nI_eq (by omega) (by omega)]
      have q5 : xa_op (KP K) (xa_nx a t) = 3 → xa_op (KP K) l = 4 → (F (18 + 4 * l + 2) = F (60 + 5 * rx e' + 2) ↔ xa_ob (KP K) l = xa_ob (KP K) (xa_nx a t)) := fun x3 x4 => by
        rw [b8] at x3
        rw [f8] at x4
        have := (rI.2.2.2.2.2.1 (Or.inl (by rw [b3, x3]; rfl))).2
        obtain ⟨-, o1, g1, gb1, -, -, -, -, g2, -⟩ := Z.2.2.2.2.2.2.2.1 e' b1
        obtain ⟨-, o2, g3, gb3, -, -, -, -, g4, -⟩ := Z.2.2.2.2.2.2.2.1 el f1
        have u1 : o1 = 3 := by rw [b3, x3] at g1; exact ((nI_eq (by omega) (by omega)).mp g1).symm
        have u2 : o2 = 4 := by rw [f3, x4] at g3; exact ((nI_eq (by omega) (by omega)).mp g3).symm
        obtain ⟨ma, v1, v2⟩ := g2 (by omega)
        obtain ⟨mb, v3, v4⟩ := g4 (by omega)
        rw [this, f9, f10, b10, v2, v4, nI_eq (by omega) (by omega), ix_nI (by omega), ix_nI (by omega)]
      constructor
      · rintro ⟨x1, x2, x3, x4⟩
        exact ⟨q3.mp x1, q4.mp x3, (q5 (q3.mp x1) (q4.mp x3)).mp x4, x2⟩
      · rintro ⟨x1, x2, x3, x4⟩
        exact ⟨q3.mpr x1, x4, q4.mpr x2, (q5 x1 x2).mpr x3⟩
    constructor
    · rintro (⟨l, q1, q2⟩ | ⟨l, -, -, q1, q2⟩)
      · exact ⟨l, Or.inl q1, q2⟩
      · exact ⟨l, Or.inr ((eqv l q1.2.1).mp q1), q2⟩
    · rintro ⟨l, q1 | q1, q2⟩
      · exact Or.inl ⟨l, q1, q2⟩
      · exact Or.inr ⟨l, by omega, by have := lt8 l q1.2.2.2; omega, (eqv l q1.2.2.2).mpr q1, q2⟩
  -- the end
  unfold b_X11_ahead_151
  rw [x_ok E, Option.bind_some, show f_X11_instr 102 (nI (rx e')) (0 : Int32) H = _ from x_ins (k := 0) E (by omega), Option.bind_some]
  have op2 : F (60 + 5 * rx e' + 0) = 2 ↔ op = 2 := by rw [F0, show (2 : Int32) = nI 2 from rfl, nI_eq (by omega) (by omega)]
  have o2' : nI o = 2 ↔ o = 2 := by rw [show (2 : Int32) = nI 2 from rfl, nI_eq (by omega) (by omega)]
  have fin : ∀ x, ¬ (op = 2 ∧ o = 2) → mk8 x (fun k => ∃ l, ((xa_th (KP K) l = t ∧ as_do a l) ∨ (xa_op (KP K) (xa_nx a t) = 3 ∧ xa_op (KP K) l = 4 ∧ xa_ob (KP K) l = xa_ob (KP K) (xa_nx a t) ∧ as_do a l)) ∧ (k = l ∨ as_ea a l k)) → mk8 x (xa_ah (KP K) V o a t (xa_nx a t) 0) := fun x hx => mk8_cg (fun k _ => by
    constructor
    · rintro ⟨l, q1 | q1, q2⟩
      · exact ⟨l, Or.inl q1, q2⟩
      · exact ⟨l, Or.inr (Or.inl q1), q2⟩
    · rintro ⟨l, q1 | q1 | q1 | q1, q2⟩
      · exact ⟨l, Or.inl q1, q2⟩
      · exact ⟨l, Or.inr q1, q2⟩
      · exact absurd q1.2.2 (by omega)
      · exact absurd ⟨b8.symm.trans q1.1, q1.2.1⟩ hx)
  by_cases c2 : op = 2
  · rw [if_pos (op2.mpr c2)]
    unfold b_X11_ahead_161
    rw [x_o E, Option.bind_some]
    by_cases c3 : o = 2
    · rw [if_pos (o2'.mpr c3)]
      obtain ⟨-, o1, g1, gb1, -, -, -, -, -, -, g2, -⟩ := Z.2.2.2.2.2.2.2.1 e' b1
      have u1 : o1 = 2 := by rw [b3, c2] at g1; exact ((nI_eq (by omega) (by omega)).mp g1).symm
      obtain ⟨bb, v1, v2, v3⟩ := g2 u1
      have f4 := rI.2.2.2.1 (by rw [b3, c2]; rfl)
      have ebl : xa_bl (KP K) (xa_nx a t) = bb := by rw [(kp_f hsz b1 b2).2.2.2, v2, ix_nI (by omega)]
      unfold b_X11_ahead_172
      rw [x_ok E, Option.bind_some, show f_X11_instr 102 (nI (rx e')) (4 : Int32) H = _ from x_ins (k := 4) E (by omega), Option.bind_some, x_ok E, Option.bind_some, f4, v2, ad, x_st E hd (by omega), Option.bind_some]
      have src := T.2.2.2.2 ho bb v1 (v3.trans T.2.2.1)
      -- no write seen
      have none' : (xa_lm a t).2 bb = 0 → ∀ x, mk8 x (fun k => ∃ l, ((xa_th (KP K) l = t ∧ as_do a l) ∨ (xa_op (KP K) (xa_nx a t) = 3 ∧ xa_op (KP K) l = 4 ∧ xa_ob (KP K) l = xa_ob (KP K) (xa_nx a t) ∧ as_do a l)) ∧ (k = l ∨ as_ea a l k)) → mk8 x (xa_ah (KP K) V o a t (xa_nx a t) 0) := fun h0 x => mk8_cg (fun k _ => by
        constructor
        · rintro ⟨l, q1 | q1, q2⟩
          · exact ⟨l, Or.inl q1, q2⟩
          · exact ⟨l, Or.inr (Or.inl q1), q2⟩
        · rintro ⟨l, q1 | q1 | q1 | q1, q2⟩
          · exact ⟨l, Or.inl q1, q2⟩
          · exact ⟨l, Or.inr q1, q2⟩
          · exact absurd q1.2.2 (by omega)
          · obtain ⟨m, y1, -⟩ := q1.2.2.2.2
            rw [ebl] at y1
            omega)
      have lp0 : ∀ x, b_X11_ahead_208 102 (nI d) x (-1 : Int32) H = some (x, H) := fun x => by
        unfold b_X11_ahead_208
        show b_X11_ahead_213 (l_X11_ahead_213 199999) 102 (nI d) x (-1) 0 H = _
        unfold b_X11_ahead_213
        rw [x_ok E, Option.bind_some, show f_X11_of 102 (6 : Int32) H = some (nI na, H) by rw [← P.2.1]; exact x_of (k := 6) E (by omega), Option.bind_some]
        split
        · rfl
        · unfold b_X11_ahead_224
          rw [if_pos rfl]
          rfl
      obtain ⟨z1, z2⟩ | ⟨n, n8, ndo, z1, z2⟩ := src
      · rw [if_pos z1]
        unfold b_X11_ahead_194
        exact ⟨_, lp0 _, none' z2 _ s1'⟩
      · rw [if_neg (by rw [z1]; exact nI_ne1 (by omega)), z1]
        unfold b_X11_ahead_198
        rw [x_ok E, Option.bind_some, ad, x_st E hd (by omega), Option.bind_some]
        obtain ⟨z3, z4⟩ | ⟨m, m8, z3, z4⟩ := z2
        · rw [z4]
          exact ⟨_, lp0 _, none' z3 _ s1'⟩
        · rw [z4]
          unfold b_X11_ahead_208
          have lp := l_ah2 (w := m) E hd P.2.1 hna m8 na (Nat.le_refl _) fu_ (by show na < 200000; omega)
          rw [Nat.sub_self] at lp
          refine ⟨_, lp _, ?_⟩
          have hdm : as_do a m := I.2.2.2.2.2 t bb m z3
          have hmna := lt8 m hdm
          obtain ⟨em, opm, f1, f2, f3, f4', f5, f6, f7, f8, f9, f10, f11, f12⟩ := an_f P hmna
          refine mk8_cg (fun k _ => ?_) (m_ah2 (F := F) (w := m) m2 m8 na 0 _ _ (by omega) s1')
          have eqv : ∀ l, l < na → ((F (18 + 4 * l + 1) = 5 ∧ F (18 + 4 * m) = F 11 ∧ as_ea a m l) ↔ (xa_op (KP K) (xa_nx a t) = 2 ∧ o = 2 ∧ pa_dn (KP K) = l ∧ as_do a l ∧ xa_pub (KP K) (xa_lm a t) (xa_bl (KP K) (xa_nx a t)))) := fun l hl => by
            obtain ⟨el, opl, w1, w2, w3, w4, w5, w6, w7, w8, w9, w10, w11, w12⟩ := an_f P hl
            constructor
            · rintro ⟨x1, x2, x3⟩
              have x5 : xa_op (KP K) l = 5 := by rw [w7, show (5 : Int32) = nI 5 from rfl, nI_eq (by omega) (by omega)] at x1; exact x1
              have kd := P.2.2.2.2.2.2.2.2.2.2 el w1 (by rw [w3, ← w8, x5]; rfl)
              rw [w12] at kd
              have edn : pa_dn (KP K) = l := by
                show (if K 10 17 = -1 then 8 else ix (K 10 17)) = l
                rw [← kd, if_neg (nI_ne1 (by omega)), ix_nI (by omega)]
              rw [f5, P.2.2.2.2.2.2.2.2.1] at x2
              have emk : xa_th (KP K) m = pa_mk (KP K) := by
                show _ = ix (K 10 16)
                rw [← x2, ix_nI (by omega)]
              have tl : xa_th (KP K) l = pa_mk (KP K) := by
                have := W.2.2.2.2.2.2 (by rw [edn, kp_na Z]; exact hl)
                rw [edn] at this
                exact this
              refine ⟨b8.trans c2, c3, edn, (I.2.2.1 _ _ x3).2, m, by rw [ebl]; exact z3, emk, ?_⟩
              rw [edn]
              exact X.2.2 m l x3 (tl.trans emk.symm)
            · rintro ⟨-, -, x3, x4, m', x5, x6, x7⟩
              rw [ebl, z3] at x5
              obtain rfl : m' = m := by omega
              rw [x3] at x7
              have kc := Z.2.2.2.2.2.2.2.2.2
              obtain kc | ⟨dd, mm, ed, y1, y2, y3, y4, y5, y6, y7, y8, -⟩ := kc
              · have : pa_dn (KP K) = 8 := if_pos kc
                omega
              · have edn : pa_dn (KP K) = dd := by
                  show (if K 10 17 = -1 then 8 else ix (K 10 17)) = dd
                  rw [y1, if_neg (nI_ne1 (by omega)), ix_nI (by omega)]
                have dl : dd = l := by omega
                have emk : pa_mk (KP K) = mm := by
                  show ix (K 10 16) = mm
                  rw [y3, ix_nI (by omega)]
                have eel : ed = el := by rw [← dl, y5, nI_eq (by omega) (by omega)] at w2; exact w2
                refine ⟨?_, ?_, X.2.1 l m' x4 hdm ?_ x7⟩
                · rw [w7, w8]
                  rw [← eel, y8, nI_eq (by omega) (by omega)] at w3
                  rw [← w3]
                  rfl
                · rw [f5, P.2.2.2.2.2.2.2.2.1, y3, x6, emk]
                · have := W.2.2.2.2.2.2 (by rw [x3, kp_na Z]; exact hl)
                  rw [x3] at this
                  exact this.trans x6.symm
          constructor
          · rintro (⟨l, q1 | q1, q2⟩ | ⟨l, -, q0, q1, q2⟩)
            · exact ⟨l, Or.inl q1, q2⟩
            · exact ⟨l, Or.inr (Or.inl q1), q2⟩
            · exact ⟨l, Or.inr (Or.inr (Or.inr ((eqv l (by omega)).mp q1))), q2⟩
          · rintro ⟨l, q1 | q1 | q1 | q1, q2⟩
            · exact Or.inl ⟨l, Or.inl q1, q2⟩
            · exact Or.inl ⟨l, Or.inr q1, q2⟩
            · exact absurd q1.2.2 (by omega)
            · have := lt8 l q1.2.2.2.1
              exact Or.inr ⟨l, by omega, by omega, (eqv l this).mpr q1, q2⟩
    · rw [if_neg (fun x => c3 (o2'.mp x))]
      exact ⟨_, rfl, fin _ (fun x => c3 x.2) s1'⟩
  · rw [if_neg (fun x => c2 (op2.mp x))]
    exact ⟨_, rfl, fin _ (fun x => c2 x.1) s1'⟩
theorem x_iw {i c : Nat} (E : RE H s F o mo) (hi : i < 8) : f_X11_isWriteOf 102 (nI i) (nI c) H = some (if F (18 + 4 * i + 1) = 1 ∧ F (18 + 4 * i + 2) = nI c then 1 else 0, H) := by
  unfold f_X11_isWriteOf b_X11_isWriteOf_0
  rw [x_ok E, Option.bind_some, c4n, x_of E (by omega), Option.bind_some]
  by_cases c1 : F (18 + 4 * i + 1) = 1
  · rw [if_pos c1]
    unfold b_X11_isWriteOf_16
    rw [x_ok E, Option.bind_some, c4n, x_of E (by omega), Option.bind_some]
    by_cases c2 : F (18 + 4 * i + 2) = nI c
    · rw [if_pos c2, if_pos ⟨c1, c2⟩]; exact ok_z_1
    · rw [if_neg c2, if_neg (fun x => c2 x.2)]; exact ok_z_0
  · rw [if_neg c1, if_neg (fun x => c1 x.1)]; exact ok_z_0
/-- what hides -/
def hdc (F g : Nat → Int32) (c : Nat) (w set : Int32) (i : Nat) : Prop := (F (18 + 4 * i + 1) = 1 ∧ F (18 + 4 * i + 2) = nI c) ∧ ¬ (set >>> (nI i &&& 31)) &&& (1 : Int32) = 0 ∧ (w = -1 ∨ (g (105 + i) >>> (w &&& 31)) &&& (1 : Int32) = 1)
theorem l_sn {c : Nat} {w set : Int32} (E : RE H s F o mo) (hd : d < 20) (h6 : F 6 = nI na) (h8 : na ≤ 8) : ∀ n, n ≤ na → ∀ fu, n < fu → ∀ x, (x = 0 ∨ x = 1) → ∃ r, l_X11_isSeen_6 fu 102 (nI d) (nI c) w set x (nI (na - n)) H = some (r, H) ∧ (r = 0 ∨ r = 1) ∧ (r = 1 ↔ x = 0 ∧ ∀ i, na - n ≤ i → i < na → ¬ hdc F (rowv H d) c w set i) := by
  intro n
  have e6 : f_X11_of 102 (6 : Int32) H = some (nI na, H) := by rw [← h6]; exact x_of (k := 6) E (by omega)
  induction n with
  | zero =>
    intro _ fu hf x hx
    obtain ⟨fu, rfl⟩ : ∃ f, fu = f + 1 := ⟨fu - 1, by omega⟩
    show ∃ r, b_X11_isSeen_6 (l_X11_isSeen_6 fu) 102 (nI d) (nI c) w set x (nI (na - 0)) H = _ ∧ _
    unfold b_X11_isSeen_6
    rw [x_ok E, Option.bind_some, e6, Option.bind_some, if_pos ((cmp_N (by omega) (by omega)).mpr (by omega))]
    unfold b_X11_isSeen_81
    obtain rfl | rfl := hx
    · rw [if_pos rfl]
      exact ⟨1, ok_z_1, Or.inr rfl, fun _ => ⟨rfl, fun i _ _ => by omega⟩, fun _ => rfl⟩
    · rw [if_neg (by decide)]
      exact ⟨0, ok_z_0, Or.inl rfl, fun x => absurd x (by decide), fun x => absurd x.1 (by decide)⟩
  | succ n ih =>
    intro hn fu hf x hx
    obtain ⟨fu, rfl⟩ : ∃ f, fu = f + 1 := ⟨fu - 1, by omega⟩
    generalize hi : na - (n + 1) = i
    have i2 : nI i + (1 : Int32) = nI (na - n) := by rw [da]; congr 1; omega
    show ∃ r, b_X11_isSeen_6 (l_X11_isSeen_6 fu) 102 (nI d) (nI c) w set x (nI i) H = _ ∧ _
    unfold b_X11_isSeen_6
    rw [x_ok E, Option.bind_some, e6, Option.bind_some, if_neg (fun e => by have := (cmp_N (by omega) (by omega)).mp e; omega)]
    have nx : ∀ y, (y = 0 ∨ y = 1) → (y = 0 ↔ x = 0 ∧ ¬ hdc F (rowv H d) c w set i) → ∃ r, b_X11_isSeen_75 (l_X11_isSeen_6 fu) 102 (nI d) (nI c) w set y (nI i) H = some (r, H) ∧ (r = 0 ∨ r = 1) ∧ (r = 1 ↔ x = 0 ∧ ∀ j, i ≤ j → j < na → ¬ hdc F (rowv H d) c w set j) := by
      intro y y1 y2
      obtain ⟨r, r1, r2, r3⟩ := ih (by omega) fu (by omega) y y1
      refine ⟨r, ?_, r2, r3.trans ?_⟩
      · unfold b_X11_isSeen_75
        rw [i2]
        exact r1
      · rw [y2]
        constructor
        · rintro ⟨⟨z1, z2⟩, z3⟩
          refine ⟨z1, fun j j1 j2 => ?_⟩
          by_cases ej : j = i
          · subst ej; exact z2
          · exact z3 j (by omega) j2
        · rintro ⟨z1, z2⟩
          exact ⟨⟨z1, z2 i (by omega) (by omega)⟩, fun j j1 j2 => z2 j (by omega) j2⟩
    unfold b_X11_isSeen_17
    rw [x_ok E, Option.bind_some, x_iw E (by omega), Option.bind_some]
    by_cases c1 : F (18 + 4 * i + 1) = 1 ∧ F (18 + 4 * i + 2) = nI c
    · rw [if_pos c1, if_neg n10]
      unfold b_X11_isSeen_27
      by_cases c2 : (set >>> (nI i &&& 31)) &&& (1 : Int32) = 0
      · rw [if_pos c2]
        exact nx x hx ⟨fun y => ⟨y, fun z => z.2.1 c2⟩, fun y => y.1⟩
      · rw [if_neg c2]
        unfold b_X11_isSeen_40
        by_cases c3 : x = 0
        · rw [if_pos c3]
          unfold b_X11_isSeen_45
          by_cases c4 : w = -1
          · rw [if_pos c4]
            exact nx 1 (Or.inr rfl) ⟨fun y => absurd y (by decide), fun y => absurd ⟨c1, c2, Or.inl c4⟩ y.2⟩
          · rw [if_neg c4]
            unfold b_X11_isSeen_50
            rw [x_ok E, Option.bind_some, ad, x_st E hd (by omega), Option.bind_some]
            by_cases c5 : (rowv H d (105 + i) >>> (w &&& 31)) &&& (1 : Int32) = 1
            · rw [if_pos c5]
              exact nx 1 (Or.inr rfl) ⟨fun y => absurd y (by decide), fun y => absurd ⟨c1, c2, Or.inr c5⟩ y.2⟩
            · rw [if_neg c5]
              exact nx 0 (Or.inl rfl) ⟨fun _ => ⟨c3, fun z => z.2.2.elim c4 c5⟩, fun _ => rfl⟩
        · rw [if_neg c3]
          exact nx 1 (Or.inr rfl) ⟨fun y => absurd y (by decide), fun y => absurd y.1 c3⟩
    · rw [if_neg c1, if_pos rfl]
      exact nx x hx ⟨fun y => ⟨y, fun z => c1 z.1⟩, fun y => y.1⟩
/-- a write is seen -/
theorem x_seen {c w : Nat} {x wI : Int32} (P : PR F K te ow rx na nt sz V mo) (E : RE H s F o mo) (hd : d < 20) (I : xa_in (KP K) o a) (D : DR K te ow rx na nt sz o V (rowv H d) a p) (hn : xa_nx a t < na) (ho : o ≠ 1) (hc : c < 6) (hob : xa_ob (KP K) (xa_nx a t) = c) (hx : mk8 x (xa_ah (KP K) V o a t (xa_nx a t) 0)) (hw : wR wI w) :
    (¬ xa_hid (KP K) V o a t (xa_nx a t) c w ∧ f_X11_isSeen 102 (nI d) (nI c) wI x H = some (1, H)) ∨ (xa_hid (KP K) V o a t (xa_nx a t) c w ∧ f_X11_isSeen 102 (nI d) (nI c) wI x H = some (0, H)) := by
  have Z := P.1
  have hna := Z.1
  have hnt := Z.2.1
  have hsz := Z.2.2.1
  obtain ⟨m1, m2, m3, m4, m5⟩ := D.2.2.2.2.2.1 ho
  obtain ⟨r, r1, r2, r3⟩ := l_sn (c := c) (w := wI) (set := x) E hd P.2.1 hna na (Nat.le_refl _) fu_ (by show na < 200000; omega) 0 (Or.inl rfl)
  rw [Nat.sub_self] at r1 r3
  have lt8 : ∀ l, as_do a l → l < na := fun l hl => by have := (I.2.1 l hl).1; rw [kp_na Z] at this; exact this
  have key : xa_hid (KP K) V o a t (xa_nx a t) c w ↔ ∃ i, i < na ∧ hdc F (rowv H d) c wI x i := by
    have eqv : ∀ i, i < na → (hdc F (rowv H d) c wI x i ↔ (xa_wr (KP K) i c ∧ xa_ah (KP K) V o a t (xa_nx a t) 0 i ∧ (w = 0 ∨ ∃ m, w = m + 1 ∧ as_ea a i m))) := fun i hi => by
      obtain ⟨el, opl, w1, w2, w3, w4, w5, w6, w7, w8, w9, w10, w11, w12⟩ := an_f P hi
      have q1 : (F (18 + 4 * i + 1) = 1 ∧ F (18 + 4 * i + 2) = nI c) ↔ xa_wr (KP K) i c := by
        unfold xa_wr
        rw [w7, show (1 : Int32) = nI 1 from rfl, nI_eq (by omega) (by omega)]
        refine and_congr_right (fun h1 => ?_)
        obtain ⟨-, o1, g1, gb1, -, -, -, g2, -⟩ := Z.2.2.2.2.2.2.2.1 el w1
        have u1 : o1 = 1 := by rw [w3, ← w8, h1] at g1; exact ((nI_eq (by omega) (by omega)).mp g1).symm
        obtain ⟨cc, v1, v2⟩ := g2 (by omega)
        rw [w9, w10, v2, ix_nI (by omega), nI_eq (by omega) (by omega)]
      unfold hdc
      rw [q1]
      refine and_congr_right (fun _ => and_congr ?_ ?_)
      · rw [mk8_bit0 hx (by omega)]
        exact ⟨fun y => Classical.byContradiction y, fun y z => z y⟩
      · obtain ⟨rfl, rfl⟩ | ⟨m, z1, rfl, rfl⟩ := hw
        · exact ⟨fun _ => Or.inl rfl, fun _ => Or.inl rfl⟩
        · rw [mk8_bit (m2 i (by omega)) z1]
          constructor
          · rintro (y | y)
            · exact absurd y (nI_ne1 (by omega))
            · exact Or.inr ⟨m, rfl, y⟩
          · rintro (y | ⟨m', y1, y2⟩)
            · omega
            · obtain rfl : m' = m := by omega
              exact Or.inr y2
    constructor
    · rintro ⟨i, y1, y2, y3, y4⟩
      exact ⟨i, lt8 i y2, (eqv i (lt8 i y2)).mpr ⟨y1, y3, y4⟩⟩
    · rintro ⟨i, y1, y2⟩
      obtain ⟨z1, z2, z3⟩ := (eqv i y1).mp y2
      exact ⟨i, z1, xa_ah_do I (fun m hm => by omega) z2, z2, z3⟩
  have f : f_X11_isSeen 102 (nI d) (nI c) wI x H = some (r, H) := r1
  rw [f, key]
  obtain rfl | rfl := r2
  · right
    refine ⟨?_, rfl⟩
    apply Classical.byContradiction
    intro y
    exact absurd (r3.mpr ⟨rfl, fun i _ hi z => y ⟨i, hi, z⟩⟩) (by decide)
  · left
    refine ⟨?_, rfl⟩
    rintro ⟨i, i1, i2⟩
    exact (r3.mp rfl).2 i (by omega) i1 i2
end
