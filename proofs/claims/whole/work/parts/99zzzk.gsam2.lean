/-! ===== same: the class's threads ===== -/
theorem op58 {n : Nat} (h : n ≤ 10) (a : ¬ (n = 0 ∨ n = 2 ∨ n = 6 ∨ n = 7)) (b : ¬ n = 1) (c : ¬ (n = 3 ∨ n = 4)) : n = 5 ∨ 8 ≤ n := by omega
theorem op59 {n : Nat} (h : n ≤ 10) (a : ¬ n = 0) (b : ¬ n = 2) (c : ¬ (n = 1 ∨ n = 6)) (d : ¬ (n = 3 ∨ n = 4)) (e : ¬ n = 7) : n = 5 ∨ 8 ≤ n := by omega
theorem op02 {n : Nat} (h : n ≤ 2) : n = 0 ∨ n = 1 ∨ n = 2 := by omega
theorem op5a {n : Nat} (h : 5 ≤ n) (a : ¬ n = 6) (b : ¬ n = 7) : n = 5 ∨ 8 ≤ n := by omega
/-- an entry's fields -/
def WFx (x : Ent) : Prop := en_op x ≤ 10 ∧ (en_tl x = -1 ∨ ∃ l, l < 5 ∧ en_tl x = nI l) ∧ (en_bs x = -1 ∨ ∃ l, l < 5 ∧ en_bs x = nI l) ∧ (en_op x ≤ 2 → ∃ c, c < 6 ∧ en_ob x = nI c) ∧ (en_op x = 3 ∨ en_op x = 4 → ∃ m, m < 2 ∧ en_ob x = nI m) ∧ (5 ≤ en_op x → en_ob x = -1)
theorem wf_x {x : Ent} {AL : List Act} {ow kd : Nat → Int32} {dn : Int32} {i : Nat} (F : FX AL ow kd dn i x) (Z : fzb x = true) : WFx x := by
  obtain ⟨z0, z1, z2, z3, z5, z6, z7⟩ := of_decide_eq_true Z
  obtain ⟨f1, -, -, f4, f5, f6, f7, f8, f9, -⟩ := F
  refine ⟨f1, ?_, ?_, fun h => ?_, f5, fun h => ?_⟩
  · by_cases c : en_op x = 0 ∨ en_op x = 2 ∨ en_op x = 6 ∨ en_op x = 7
    · obtain ⟨l, l1, l2, -⟩ := f6 c
      exact Or.inr ⟨l, l1, l2⟩
    · left
      by_cases c1 : en_op x = 1
      · exact z1 c1
      · by_cases c3 : en_op x = 3 ∨ en_op x = 4
        · exact (z3 c3).1
        · exact (z5 (op58 f1 c c1 c3)).1
  · by_cases c0 : en_op x = 0
    · exact Or.inl (z0 c0).1
    · by_cases c2 : en_op x = 2
      · obtain ⟨l, l1, l2, -⟩ := f7 c2
        exact Or.inr ⟨l, l1, l2⟩
      · by_cases c1 : en_op x = 1 ∨ en_op x = 6
        · exact (f8 c1).1.imp id (fun ⟨b, y1, y2, _⟩ => ⟨b, y1, y2⟩)
        · left
          by_cases c3 : en_op x = 3 ∨ en_op x = 4
          · exact (z3 c3).2.1
          · by_cases c7 : en_op x = 7
            · exact (z7 c7).1
            · exact (z5 (op59 f1 c0 c2 c1 c3 c7)).2.1
  · obtain ⟨c, c1, c2, -⟩ := f4 (op02 h)
    exact ⟨c, c1, c2⟩
  · by_cases c6 : en_op x = 6
    · exact z6 c6
    · by_cases c7 : en_op x = 7
      · exact (z7 c7).2
      · exact (z5 (op5a h c6 c7)).2.2.2
def ocb (x : Ent) : Nat := if en_op x ≤ 2 then 300 else 500
/-- two entries go together -/
def sm (d d' : PD) (x y : Ent) : Prop := en_op x = en_op y ∧ en_dg x = en_dg y ∧ (en_tl x = -1 ↔ en_tl y = -1) ∧ (en_bs x = -1 ↔ en_bs y = -1) ∧ (en_op x ≤ 2 → pK d (ix (en_ob x)) = pK d' (ix (en_ob y)))
def ep (x y : Ent) : MP := npr (ocb x) (en_ob x) (en_ob y) ++ (npr 400 (en_bs x) (en_bs y) ++ npr 400 (en_tl x) (en_tl y))
/-- the class's two programs -/
def TwP (h : AH) (pr pr' : Nat) (d d' : PD) : Prop := GLk h ∧ CPl h pr d ∧ CPl h pr' d'
theorem co_r {h : AH} {pr : Nat} {d : PD} (C : CPl h pr d) : CoR h (hp_r h pr 0) d := by
  obtain ⟨-, ⟨b1, b2⟩, c, -, ⟨ek, -⟩, -⟩ := C
  exact ⟨sr_ok b1 b2, fun i hi => ⟨(c i hi).1.1, sr_ok (c i hi).1 (c i hi).2.1, (c i hi).2.2, by
    rw [← ek]
    unfold kh
    rw [if_pos hi]⟩, by rw [← ek]; rfl, b1.1⟩
section
variable {h : AH} {pr pr' e f : Nat} {d d' : PD}
theorem vn_l {x : Nat} (hx : x < 5) : VN (400 + x) ∧ x < 10 := by unfold VN; omega
theorem rs_obj (T : TwP h pr pr' d d') (he : e < (pE d).length) (hf : f < (pE d').length) (ho : en_op ((pE d).getD e dE) = en_op ((pE d').getD f dE)) : RSx h (f_X1_objectFits 99 pr pr' (nI e) (nI f)) (en_op ((pE d).getD e dE) ≤ 2 → pK d (ix (en_ob ((pE d).getD e dE))) = pK d' (ix (en_ob ((pE d').getD f dE)))) (npr (ocb ((pE d).getD e dE)) (en_ob ((pE d).getD e dE)) (en_ob ((pE d').getD f dE))) := by
  obtain ⟨G, C, C'⟩ := T
  have P := C.2.2.2.2.1.2
  have P' := C'.2.2.2.2.1.2
  have b64 := P.1.2.2.1.1
  have b64' := P'.1.2.2.1.1
  obtain ⟨-, he', -⟩ := P.2.1
  obtain ⟨-, hf', -⟩ := P'.2.1
  obtain ⟨k0, k1, k2, k3, k4, -, -⟩ := he' e he
  obtain ⟨j0, j1, j2, j3, j4, -, -⟩ := hf' f hf
  have wx := wf_x (P.1.1.1 e he).2 (nst_fz P.1.2.2.2.2.2.1 he)
  have wy := wf_x (P'.1.1.1 f hf).2 (nst_fz P'.1.2.2.2.2.2.1 hf)
  have ok := sr_ok C.1.1 C.1.2
  have ok' := sr_ok C'.1.1 C'.1.2
  have cr := co_r C
  have cr' := co_r C'
  generalize (pE d).getD e dE = x at *
  generalize (pE d').getD f dE = y at *
  have l4 : e < m_len 4 := by show e < 64; omega
  have l4' : f < m_len 4 := by show f < 64; omega
  have cel : ∀ A, Fm h A → f_X0_isCellAction (hp_r h pr 0) (nI e) (sA h A) = some ((if en_op x ≤ 2 then 1 else 0), sA h A) := fun A a => by
    obtain ⟨c1, c2, c3, c4⟩ := cr
    obtain ⟨r1, r2, r3, r4⟩ := c2 0 (by omega)
    unfold f_X0_isCellAction b_X0_isCellAction_0
    rw [q_r c1 rfl, Option.bind_some, and63 (by omega), show l_i (sA h A) (hp_r h (hp_r h pr 0) 0) (nI e) = some (A (hp_r h (hp_r h pr 0) 0) e) from l_iN (h := sA h A) r2 (by show e < hp_l h (hp_r h (hp_r h pr 0) 0); rw [r3]; show e < 64; omega) (by omega), Option.bind_some, a _ _ (by omega) (by omega), r4, k0]
    unfold b_X0_isCellAction_14 b_X0_isCellAction_19
    have tq : ∀ v, v < 11 → (nI (en_op x) = nI v ↔ en_op x = v) := fun v hv => nI_eq (by have := wx.1; omega) (by omega)
    by_cases q0 : en_op x = 0
    · rw [if_pos (show nI (en_op x) = 0 from (tq 0 (by omega)).mpr q0), if_pos (by omega)]; exact ok_z_1
    · rw [if_neg (show ¬ nI (en_op x) = 0 from fun z => q0 ((tq 0 (by omega)).mp z))]
      by_cases q1 : en_op x = 1
      · rw [if_pos (show nI (en_op x) = 1 from (tq 1 (by omega)).mpr q1), if_pos (by omega)]; exact ok_z_1
      · rw [if_neg (show ¬ nI (en_op x) = 1 from fun z => q1 ((tq 1 (by omega)).mp z))]
        by_cases q2 : en_op x = 2
        · rw [if_pos (show nI (en_op x) = 2 from (tq 2 (by omega)).mpr q2), if_pos (by omega)]; exact ok_z_1
        · rw [if_neg (show ¬ nI (en_op x) = 2 from fun z => q2 ((tq 2 (by omega)).mp z)), if_neg (by omega)]; exact ok_z_0
  -- the two ways
  have tail : RSx h (fun H => (ok_v H (hp_r h pr 0) 0).bind fun _ => (f_X0_isCellAction (hp_r h pr 0) (nI e) H).bind fun q9 => if q9.1 = 0 then b_X1_objectFits_34 99 (en_ob x) (en_ob y) q9.2 else b_X1_objectFits_45 99 pr pr' (en_ob x) (en_ob y) q9.2) (en_op x ≤ 2 → pK d (ix (en_ob x)) = pK d' (ix (en_ob y))) (npr (ocb x) (en_ob x) (en_ob y)) := by
    refine rs_v cr.1 ?_
    by_cases c : en_op x ≤ 2
    · obtain ⟨c1, c2, c3⟩ := wx.2.2.2.1 c
      obtain ⟨e1, e2, e3⟩ := wy.2.2.2.1 (by omega)
      have i1 : ix (en_ob x) = c1 := by rw [c3]; exact ix_nI (by omega)
      have i2 : ix (en_ob y) = e1 := by rw [e3]; exact ix_nI (by omega)
      have nf := rs_nf (gq := 0) (bs := 300) G (Or.inl ⟨rfl, rfl⟩) (s := en_ob x) (s' := en_ob y) (Or.inr ⟨c1, by unfold VN; omega, by omega, c3⟩) (Or.inr ⟨e1, by unfold VN; omega, by omega, e3⟩)
      have w68 : RSx h (b_X1_objectFits_68 99 (en_ob x) (en_ob y)) True (npr 300 (en_ob x) (en_ob y)) := rs_cg (rs_v G.1 (rs_one nf)) ⟨fun _ => trivial, fun _ => ⟨fun w => absurd (c3.symm.trans w) (nI_ne1 (by omega)), fun w => absurd (e3.symm.trans w) (nI_ne1 (by omega))⟩⟩ rfl
      have w45 : RSx h (b_X1_objectFits_45 99 pr pr' (en_ob x) (en_ob y)) (pK d c1 = pK d' e1 ∧ True) (npr 300 (en_ob x) (en_ob y)) := by
        have a7 : en_ob x &&& (7 : Int32) = nI c1 := by rw [c3]; exact an7 c1 c2
        have a7' : en_ob y &&& (7 : Int32) = nI e1 := by rw [e3]; exact an7 e1 e2
        refine rs_eq (f := fun H => (g_r H pr 5 1).bind fun x1 => (l_i H x1 (nI c1)).bind fun v => (fun v H => (g_r H pr' 5 1).bind fun x3 => (l_i H x3 (nI e1)).bind fun v' => (fun v' H => if v = v' then b_X1_objectFits_68 99 (en_ob x) (en_ob y) H else ok_z 0 H) v' H) v H) ?_ (fun H => ?_)
        · refine rs_rk ok ⟨C.2.2.2.1.1.1, sr_ok C.2.2.2.1.1 C.2.2.2.1.2.1, C.2.2.2.1.2.2.1, C.2.2.2.1.2.2.2⟩ (by omega) ?_
          refine rs_rk ok' ⟨C'.2.2.2.1.1.1, sr_ok C'.2.2.2.1.1 C'.2.2.2.1.2.1, C'.2.2.2.1.2.2.1, C'.2.2.2.1.2.2.2⟩ (by omega) ?_
          exact rs_if (fun _ => w68)
        · unfold b_X1_objectFits_45
          rw [a7, a7']
          rfl
      intro A M a b dd
      obtain ⟨v, A1, x1, x2⟩ := rs_cg w45 (show _ ↔ (en_op x ≤ 2 → pK d (ix (en_ob x)) = pK d' (ix (en_ob y))) from by rw [i1, i2]; exact ⟨fun w _ => w.1, fun w => ⟨w c, trivial⟩⟩) (show npr 300 (en_ob x) (en_ob y) = npr (ocb x) (en_ob x) (en_ob y) from by unfold ocb; rw [if_pos c]) A M a b dd
      refine ⟨v, A1, ?_, x2⟩
      show (f_X0_isCellAction (hp_r h pr 0) (nI e) (sA h A)).bind _ = _
      rw [cel A a, Option.bind_some, if_pos c, if_neg n10]
      exact x1
    · have nf := rs_nf (gq := 13) (bs := 500) G (Or.inr (Or.inr ⟨rfl, rfl⟩)) (s := en_ob x) (s' := en_ob y) (by
        by_cases c3 : en_op x = 3 ∨ en_op x = 4
        · obtain ⟨m, m1, m2⟩ := wx.2.2.2.2.1 c3
          exact Or.inr ⟨m, by unfold VN; omega, by omega, m2⟩
        · exact Or.inl (wx.2.2.2.2.2 (by omega))) (by
        by_cases c3 : en_op y = 3 ∨ en_op y = 4
        · obtain ⟨m, m1, m2⟩ := wy.2.2.2.2.1 c3
          exact Or.inr ⟨m, by unfold VN; omega, by omega, m2⟩
        · exact Or.inl (wy.2.2.2.2.2 (by omega)))
      have same : en_ob x = -1 ↔ en_ob y = -1 := by
        by_cases c3 : en_op x = 3 ∨ en_op x = 4
        · obtain ⟨m, m1, m2⟩ := wx.2.2.2.2.1 c3
          obtain ⟨m', m1', m2'⟩ := wy.2.2.2.2.1 (by omega)
          exact ⟨fun w => absurd (m2.symm.trans w) (nI_ne1 (by omega)), fun w => absurd (m2'.symm.trans w) (nI_ne1 (by omega))⟩
        · exact ⟨fun _ => wy.2.2.2.2.2 (by omega), fun _ => wx.2.2.2.2.2 (by omega)⟩
      have w34 : RSx h (b_X1_objectFits_34 99 (en_ob x) (en_ob y)) (en_ob x = -1 ↔ en_ob y = -1) (npr 500 (en_ob x) (en_ob y)) := rs_v G.1 (rs_z nf)
      intro A M a b dd
      obtain ⟨v, A1, x1, x2⟩ := rs_cg w34 (show _ ↔ (en_op x ≤ 2 → pK d (ix (en_ob x)) = pK d' (ix (en_ob y))) from ⟨fun _ w => absurd w c, fun _ => same⟩) (show npr 500 (en_ob x) (en_ob y) = npr (ocb x) (en_ob x) (en_ob y) from by unfold ocb; rw [if_neg c]) A M a b dd
      refine ⟨v, A1, ?_, x2⟩
      show (f_X0_isCellAction (hp_r h pr 0) (nI e) (sA h A)).bind _ = _
      rw [cel A a, Option.bind_some, if_neg c, if_pos rfl]
      exact x1
  refine rs_g (f := fun x1 H => (g_r H x1 0 4).bind fun x2 => (l_i H x2 (nI e)).bind fun x3 => (g_r H pr' 5 0).bind fun x4 => (g_r H x4 0 4).bind fun x5 => (l_i H x5 (nI f)).bind fun x6 => (g_r H pr 5 0).bind fun x7 => (ok_v H x7 0).bind fun _ => (f_X0_isCellAction x7 (nI e) H).bind fun q9 => if q9.1 = 0 then b_X1_objectFits_34 99 x3 x6 q9.2 else b_X1_objectFits_45 99 pr pr' x3 x6 q9.2) ok ?_
  refine rs_rd (g := fun x3 H => (g_r H pr' 5 0).bind fun x4 => (g_r H x4 0 4).bind fun x5 => (l_i H x5 (nI f)).bind fun x6 => (g_r H pr 5 0).bind fun x7 => (ok_v H x7 0).bind fun _ => (f_X0_isCellAction x7 (nI e) H).bind fun q9 => if q9.1 = 0 then b_X1_objectFits_34 99 x3 x6 q9.2 else b_X1_objectFits_45 99 pr pr' x3 x6 q9.2) cr (by omega) l4 ?_
  rw [k4]
  refine rs_g (f := fun x4 H => (g_r H x4 0 4).bind fun x5 => (l_i H x5 (nI f)).bind fun x6 => (g_r H pr 5 0).bind fun x7 => (ok_v H x7 0).bind fun _ => (f_X0_isCellAction x7 (nI e) H).bind fun q9 => if q9.1 = 0 then b_X1_objectFits_34 99 (en_ob x) x6 q9.2 else b_X1_objectFits_45 99 pr pr' (en_ob x) x6 q9.2) ok' ?_
  refine rs_rd (g := fun x6 H => (g_r H pr 5 0).bind fun x7 => (ok_v H x7 0).bind fun _ => (f_X0_isCellAction x7 (nI e) H).bind fun q9 => if q9.1 = 0 then b_X1_objectFits_34 99 (en_ob x) x6 q9.2 else b_X1_objectFits_45 99 pr pr' (en_ob x) x6 q9.2) cr' (by omega) l4' ?_
  rw [j4]
  exact rs_g (f := fun x7 H => (ok_v H x7 0).bind fun _ => (f_X0_isCellAction x7 (nI e) H).bind fun q9 => if q9.1 = 0 then b_X1_objectFits_34 99 (en_ob x) (en_ob y) q9.2 else b_X1_objectFits_45 99 pr pr' (en_ob x) (en_ob y) q9.2) ok tail
theorem rs_ent (T : TwP h pr pr' d d') (he : e < (pE d).length) (hf : f < (pE d').length) : RSx h (f_X1_entryFits 99 pr pr' (nI e) (nI f)) (sm d d' ((pE d).getD e dE) ((pE d').getD f dE)) (ep ((pE d).getD e dE) ((pE d').getD f dE)) := by
  have T0 := T
  have obj := fun ho => rs_obj T he hf ho
  obtain ⟨G, C, C'⟩ := T
  have P := C.2.2.2.2.1.2
  have P' := C'.2.2.2.2.1.2
  have b64 := P.1.2.2.1.1
  have b64' := P'.1.2.2.1.1
  obtain ⟨-, he', -⟩ := P.2.1
  obtain ⟨-, hf', -⟩ := P'.2.1
  obtain ⟨k0, k1, k2, k3, k4, -, -⟩ := he' e he
  obtain ⟨j0, j1, j2, j3, j4, -, -⟩ := hf' f hf
  have wx := wf_x (P.1.1.1 e he).2 (nst_fz P.1.2.2.2.2.2.1 he)
  have wy := wf_x (P'.1.1.1 f hf).2 (nst_fz P'.1.2.2.2.2.2.1 hf)
  have ok := sr_ok C.1.1 C.1.2
  have ok' := sr_ok C'.1.1 C'.1.2
  have cr := co_r C
  have cr' := co_r C'
  generalize (pE d).getD e dE = x at *
  generalize (pE d').getD f dE = y at *
  have a3 : nI e &&& (63 : Int32) = nI e := and63 (by omega)
  have a4 : nI f &&& (63 : Int32) = nI f := and63 (by omega)
  have le : ∀ i, i < 7 → e < m_len i := fun i hi => by rw [m_len64 hi]; omega
  have lf : ∀ i, i < 7 → f < m_len i := fun i hi => by rw [m_len64 hi]; omega
  have nfL : ∀ s s' : Int32, (s = -1 ∨ ∃ l, l < 5 ∧ s = nI l) → (s' = -1 ∨ ∃ l, l < 5 ∧ s' = nI l) → RSx h (fun H => (ok_v H 99 1).bind fun _ => f_X1_nameFits 99 (nI 8) s s' H) (s = -1 ↔ s' = -1) (npr 400 s s') := fun s s' hs hs' => rs_v G.1 (rs_nf (gq := 8) (bs := 400) G (Or.inr (Or.inl ⟨rfl, rfl⟩)) (hs.imp id (fun ⟨l, l1, l2⟩ => ⟨l, (vn_l l1).1, (vn_l l1).2, l2⟩)) (hs'.imp id (fun ⟨l, l1, l2⟩ => ⟨l, (vn_l l1).1, (vn_l l1).2, l2⟩)))
  have w120 : en_op x = en_op y → RSx h (b_X1_entryFits_120 99 pr pr' (nI e) (nI f)) (en_op x ≤ 2 → pK d (ix (en_ob x)) = pK d' (ix (en_ob y))) (npr (ocb x) (en_ob x) (en_ob y)) := fun ho => rs_eq (rs_v G.1 (rs_one (obj ho))) (fun H => by
    unfold b_X1_entryFits_120
    rw [a3, a4]
    rfl)
  have w90 : en_op x = en_op y → RSx h (b_X1_entryFits_90 99 pr pr' (nI e) (nI f) (hp_r h pr 0) (hp_r h pr' 0)) ((en_bs x = -1 ↔ en_bs y = -1) ∧ (en_op x ≤ 2 → pK d (ix (en_ob x)) = pK d' (ix (en_ob y)))) (npr (ocb x) (en_ob x) (en_ob y) ++ npr 400 (en_bs x) (en_bs y)) := fun ho => by
    refine rs_eq (f := fun H => (g_r H (hp_r h pr 0) 0 2).bind fun x1 => (l_i H x1 (nI e)).bind fun v => (fun v H => (g_r H (hp_r h pr' 0) 0 2).bind fun x3 => (l_i H x3 (nI f)).bind fun v' => (fun v' H => ((ok_v H 99 1).bind fun _ => f_X1_nameFits 99 (nI 8) v v' H).bind fun q6 => if q6.1 = 0 then ok_z 0 q6.2 else b_X1_entryFits_120 99 pr pr' (nI e) (nI f) q6.2) v' H) v H) ?_ (fun H => ?_)
    · refine rs_rd cr (by omega) (le 2 (by omega)) ?_
      rw [k2]
      refine rs_rd cr' (by omega) (lf 2 (by omega)) ?_
      rw [j2]
      exact rs_seq (nfL _ _ wx.2.2.1 wy.2.2.1) (fun _ => w120 ho)
    · unfold b_X1_entryFits_90
      rw [a3, a4]
      simp only [Option.bind_assoc]
      rfl
  have w60 : en_op x = en_op y → RSx h (b_X1_entryFits_60 99 pr pr' (nI e) (nI f) (hp_r h pr 0) (hp_r h pr' 0)) ((en_tl x = -1 ↔ en_tl y = -1) ∧ (en_bs x = -1 ↔ en_bs y = -1) ∧ (en_op x ≤ 2 → pK d (ix (en_ob x)) = pK d' (ix (en_ob y)))) ((npr (ocb x) (en_ob x) (en_ob y) ++ npr 400 (en_bs x) (en_bs y)) ++ npr 400 (en_tl x) (en_tl y)) := fun ho => by
    refine rs_eq (f := fun H => (g_r H (hp_r h pr 0) 0 1).bind fun x1 => (l_i H x1 (nI e)).bind fun v => (fun v H => (g_r H (hp_r h pr' 0) 0 1).bind fun x3 => (l_i H x3 (nI f)).bind fun v' => (fun v' H => ((ok_v H 99 1).bind fun _ => f_X1_nameFits 99 (nI 8) v v' H).bind fun q6 => if q6.1 = 0 then ok_z 0 q6.2 else b_X1_entryFits_90 99 pr pr' (nI e) (nI f) (hp_r h pr 0) (hp_r h pr' 0) q6.2) v' H) v H) ?_ (fun H => ?_)
    · refine rs_rd cr (by omega) (le 1 (by omega)) ?_
      rw [k1]
      refine rs_rd cr' (by omega) (lf 1 (by omega)) ?_
      rw [j1]
      exact rs_seq (nfL _ _ wx.2.1 wy.2.1) (fun _ => w90 ho)
    · unfold b_X1_entryFits_60
      rw [a3, a4]
      simp only [Option.bind_assoc]
      rfl
  have w36 : en_op x = en_op y → RSx h (b_X1_entryFits_36 99 pr pr' (nI e) (nI f) (hp_r h pr 0) (hp_r h pr' 0)) (en_dg x = en_dg y ∧ (en_tl x = -1 ↔ en_tl y = -1) ∧ (en_bs x = -1 ↔ en_bs y = -1) ∧ (en_op x ≤ 2 → pK d (ix (en_ob x)) = pK d' (ix (en_ob y)))) ((npr (ocb x) (en_ob x) (en_ob y) ++ npr 400 (en_bs x) (en_bs y)) ++ npr 400 (en_tl x) (en_tl y)) := fun ho => by
    refine rs_eq (f := fun H => (g_r H (hp_r h pr 0) 0 3).bind fun x1 => (l_i H x1 (nI e)).bind fun v => (fun v H => (g_r H (hp_r h pr' 0) 0 3).bind fun x3 => (l_i H x3 (nI f)).bind fun v' => (fun v' H => if v = v' then b_X1_entryFits_60 99 pr pr' (nI e) (nI f) (hp_r h pr 0) (hp_r h pr' 0) H else ok_z 0 H) v' H) v H) ?_ (fun H => ?_)
    · refine rs_rd cr (by omega) (le 3 (by omega)) ?_
      rw [k3]
      refine rs_rd cr' (by omega) (lf 3 (by omega)) ?_
      rw [j3]
      exact rs_if (fun _ => w60 ho)
    · unfold b_X1_entryFits_36
      rw [a3, a4]
      rfl
  have w0 : RSx h (fun H => (g_r H (hp_r h pr 0) 0 0).bind fun x1 => (l_i H x1 (nI e)).bind fun v => (fun v H => (g_r H (hp_r h pr' 0) 0 0).bind fun x3 => (l_i H x3 (nI f)).bind fun v' => (fun v' H => if v = v' then b_X1_entryFits_36 99 pr pr' (nI e) (nI f) (hp_r h pr 0) (hp_r h pr' 0) H else ok_z 0 H) v' H) v H) (nI (en_op x) = nI (en_op y) ∧ en_dg x = en_dg y ∧ (en_tl x = -1 ↔ en_tl y = -1) ∧ (en_bs x = -1 ↔ en_bs y = -1) ∧ (en_op x ≤ 2 → pK d (ix (en_ob x)) = pK d' (ix (en_ob y)))) ((npr (ocb x) (en_ob x) (en_ob y) ++ npr 400 (en_bs x) (en_bs y)) ++ npr 400 (en_tl x) (en_tl y)) := by
    refine rs_rd cr (by omega) (le 0 (by omega)) ?_
    rw [k0]
    refine rs_rd cr' (by omega) (lf 0 (by omega)) ?_
    rw [j0]
    exact rs_if (fun ho => w36 ((nI_eq (by have := wx.1; omega) (by have := wy.1; omega)).mp ho))
  refine rs_eq (f := fun H => (g_r H pr 5 0).bind fun x1 => (fun x1 H => (g_r H pr' 5 0).bind fun x2 => (fun x2 H => (g_r H x1 0 0).bind fun x3 => (l_i H x3 (nI e)).bind fun x4 => (g_r H x2 0 0).bind fun x5 => (l_i H x5 (nI f)).bind fun x6 => if x4 = x6 then b_X1_entryFits_36 99 pr pr' (nI e) (nI f) x1 x2 H else ok_z 0 H) x2 H) x1 H) ?_ (fun H => ?_)
  · refine rs_g ok (rs_g ok' ?_)
    refine rs_cg w0 ⟨fun z => ⟨(nI_eq (by have := wx.1; omega) (by have := wy.1; omega)).mp z.1, z.2⟩, fun z => ⟨by rw [z.1], z.2⟩⟩ ?_
    unfold ep
    rw [List.append_assoc]
  · unfold f_X1_entryFits b_X1_entryFits_0
    rw [a3, a4]
    rfl
end
