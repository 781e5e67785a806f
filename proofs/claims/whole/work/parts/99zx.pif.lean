/-! ===== the two readers together: a test ===== -/
theorem gd_ap {α : Type} {L X : List α} {d : α} {i : Nat} (h : i < L.length) : (L ++ X).getD i d = L.getD i d := by
  rw [List.getD_eq_getElem?_getD, List.getD_eq_getElem?_getD, List.getElem?_append_left h]
theorem set_ap {E : List Ent} {x : Ent} {i : Nat} {p q : Option Nat} (hi : i < E.length) : (E ++ [x]).set i (sJ ((E ++ [x]).getD i dE) p q) = E.set i (sJ (E.getD i dE) p q) ++ [x] := by
  rw [gd_l hi, List.set_append_left _ _ hi]
theorem px_mk {E L : List Ent} (h1 : E.length ≤ L.length) (h2 : ∀ e, e < E.length → L.getD e dE = E.getD e dE) (h3 : ∀ e, E.length ≤ e → e < L.length → npE (L.getD e dE)) : ∃ X, L = E ++ X ∧ ∀ x, x ∈ X → npE x := by
  refine ⟨L.drop E.length, ?_, fun x hx => ?_⟩
  · have : L.take E.length = E := by
      refine List.ext_getElem (by rw [List.length_take]; omega) (fun i p q => ?_)
      rw [List.getElem_take]
      have := h2 i q
      rw [List.getD_eq_getElem?_getD, List.getD_eq_getElem?_getD, List.getElem?_eq_getElem (by omega), List.getElem?_eq_getElem q] at this
      exact this
    rw [← this, List.length_take, Nat.min_eq_left h1, List.take_append_drop]
  · obtain ⟨i, p, e⟩ := List.mem_iff_getElem.mp hx
    rw [List.length_drop] at p
    rw [List.getElem_drop] at e
    have := h3 (E.length + i) (by omega) (by omega)
    rw [List.getD_eq_getElem?_getD, List.getElem?_eq_getElem (by omega)] at this
    rw [← e]
    exact this
theorem np_g {E X : List Ent} (hX : ∀ x, x ∈ X → npE x) {e : Nat} (h1 : E.length ≤ e) (h2 : e < (E ++ X).length) : npE ((E ++ X).getD e dE) := by
  rw [List.length_append] at h2
  rw [List.getD_eq_getElem?_getD, List.getElem?_append_right h1, List.getElem?_eq_getElem (by omega)]
  exact hX _ (List.getElem_mem _)
theorem np_m {E : List Ent} (h : ∀ e, e < E.length → npE (E.getD e dE)) : ∀ x, x ∈ E → npE x := fun x hx => by
  obtain ⟨i, p, e⟩ := List.mem_iff_getElem.mp hx
  have := h i p
  rw [List.getD_eq_getElem?_getD, List.getElem?_eq_getElem p] at this
  rw [← e]
  exact this
theorem np_j {x : Ent} {y : Nat} {q : Option Nat} : npE (sJ x (some y) q) := fun _ z => by cases z
theorem np_9 {a b c d : Int32} {f th : Nat} (hf : f = 9 ∨ f = 10 ∨ f ≤ 6) {p q : Option Nat} {m : Int32} : npE (f, a, b, c, d, p, q, m, th) := fun z => by
  rcases z with z | z
  · exact absurd (show f = 7 from z) (by omega)
  · exact absurd (show f = 8 from z) (by omega)
theorem rxl_ax {E X : List Ent} {e : Nat} (h : e ≤ E.length) : rxl (E ++ X) e = rxl E e := by
  unfold rxl
  rw [List.take_append_of_le_length h]
section
variable {cl : Nat} {E : List Ent} {AL : List Act} {SL : List Nat} {ow kd : Nat → Int32} {mk dn : Int32}
/-- only the reference's jump -/
theorem lv_setq {i : Nat} {qj : Option Nat} (V : LV cl E AL SL ow mk dn kd) (hi : i < E.length) (hd : ∀ d, d < AL.length → dn = nI d → (AL.getD d dA).2.2.2.2 ≤ i) : LV cl (E.set i (sJ (E.getD i dE) none qj)) AL SL ow mk dn kd := by
  obtain ⟨a, b, c, d, o⟩ := V
  have ge : ∀ k, en_te ((E.set i (sJ (E.getD i dE) none qj)).getD k dE) = en_te (E.getD k dE) ∧ en_op ((E.set i (sJ (E.getD i dE) none qj)).getD k dE) = en_op (E.getD k dE) ∧ en_nu ((E.set i (sJ (E.getD i dE) none qj)).getD k dE) = en_nu (E.getD k dE) ∧ en_ob ((E.set i (sJ (E.getD i dE) none qj)).getD k dE) = en_ob (E.getD k dE) ∧ en_tl ((E.set i (sJ (E.getD i dE) none qj)).getD k dE) = en_tl (E.getD k dE) := fun k => by
    rw [set_g hi]
    by_cases q : k = i
    · rw [if_pos q, q]; exact ⟨rfl, rfl, rfl, rfl, rfl⟩
    · rw [if_neg q]; exact ⟨rfl, rfl, rfl, rfl, rfl⟩
  refine ⟨fun e he => ?_, ⟨fun m hm => ?_, b.2⟩, fun t ht => ?_, ⟨d.1, d.2.1, ?_⟩, o⟩
  · rw [List.length_set] at he
    obtain ⟨⟨s1, s2, s3, s4, s5⟩, f⟩ := a e he
    by_cases q : e = i
    · subst q
      rw [set_g hi, if_pos rfl]
      exact ⟨⟨s1, fun z w => by rw [List.length_set, (ge _).1]; exact s2 z w, fun z => by rw [List.length_set, (ge _).1]; exact s3 z, fun z e' w1 w2 => by rw [List.length_set] at w2; rw [(ge _).1]; exact s4 z e' w1 w2, fun _ y' hy' => by cases hy'⟩, f⟩
    · rw [set_g hi, if_neg q]
      refine ⟨⟨s1, fun z w => by rw [List.length_set, (ge _).1]; exact s2 z w, fun z => by rw [List.length_set, (ge _).1]; exact s3 z, fun z e' w1 w2 => by rw [List.length_set] at w2; rw [(ge _).1]; exact s4 z e' w1 w2, fun z y' hy' => ?_⟩, f⟩
      rw [List.length_set, (ge _).1]
      exact s5 z y' hy'
  · rw [List.length_set, (ge _).1, (ge _).2.1, (ge _).2.2.1, (ge _).2.2.2.1, (ge _).2.2.2.2]
    exact b.1 m hm
  · rw [List.length_set, (ge _).1]
    exact c t ht
  · obtain e1 | ⟨dd, d1, d2, d3, d4, d5⟩ := d.2.2
    · exact Or.inl e1
    · refine Or.inr ⟨dd, d1, d2, d3, d4, fun e he => ?_⟩
      have := hd dd d1 d2
      rw [(ge _).1, (ge _).2.1, set_g hi, if_neg (by omega)]
      exact d5 e he
end
section
variable {Z : Nat → Nat → Int32} {tp : Nat → Nat} {n cnt B : Nat} {h : AH} {A A' : Nat → Nat → Int32} {j th hd ne st : Nat} {E : List Ent} {AL : List Act} {SL : List Nat} {ow : Nat → Int32} {lb mb mk dn : Int32} {kd : Nat → Int32} {rc : Nat → Int32 → AH → Option (Int32 × AH)}
/-- the class, behind the blocks -/
theorem c_end0 {i : Nat} (Q : CQ h B) (S : CS Z tp n cnt B A j th hd ne st E AL SL ow lb mb mk dn kd) (hE : E.length < 64) (hi : i < E.length) :
    ∃ A', b_X6_readBranches_60 rc 68 (nI i) (-1 : Int32) (sA h A) = some (1, sA h A') ∧ CS Z tp n cnt B A' j th hd ne st (E.set i (sJ (E.getD i dE) (some E.length) (some E.length)) ++ [(9, -1, -1, -1, -1, none, none, -1, th)]) AL SL ow lb mb mk dn kd := by
  have hB := Q.2.2.2.2.2.1
  have okB := Q.2.2.2.2.1.1
  have ok5 := (Q.2.2.2.2.1.2 5 (by omega)).2.1
  have len5 : hp_l h (B + 1 + 5) = 64 := by rw [(Q.2.2.2.2.1.2 5 (by omega)).2.2]; rfl
  obtain ⟨A1, x1, x2, -⟩ := c_add (op := 9) (tl := -1) (bs := -1) (dg := -1) (ob := -1) Q S hE
  have x3 := cs_setj (i := i) (A' := up_2 A1 (B + 6) i (nI E.length)) (pj := some E.length) (qj := some E.length) x2 hB (by rw [ln_a]; omega) (fun r k hrk => u2 (by omega)) (fun y hy => by cases hy; exact u2s)
  rw [set_ap hi] at x3
  refine ⟨_, ?_, x3⟩
  unfold b_X6_readBranches_60
  rw [q_co Q, Option.bind_some, q_v okB, Option.bind_some, show f_X0_add B (9 : Int32) (-1 : Int32) (-1 : Int32) (-1 : Int32) (-1 : Int32) (sA h A) = _ from x1, Option.bind_some, q_co Q, Option.bind_some, q_cr Q (by omega), Option.bind_some, if_pos rfl, and63 (by omega)]
  unfold b_X6_readBranches_91 b_X6_readBranches_99
  rw [q_s ok5 (by omega) (by omega), Option.bind_some, if_pos rfl]
  exact ok_z_1
theorem c_end1 {i m : Nat} (Q : CQ h B) (S : CS Z tp n cnt B A j th hd ne st E AL SL ow lb mb mk dn kd) (hE : E.length < 64) (hi : i < m) (hm : m < E.length) :
    ∃ A', b_X6_readBranches_60 rc 68 (nI i) (nI m) (sA h A) = some (1, sA h A') ∧ CS Z tp n cnt B A' j th hd ne st ((E.set i (sJ (E.getD i dE) (some (m + 1)) (some (m + 1)))).set m (sJ ((E.set i (sJ (E.getD i dE) (some (m + 1)) (some (m + 1)))).getD m dE) (some E.length) (some E.length)) ++ [(9, -1, -1, -1, -1, none, none, -1, th)]) AL SL ow lb mb mk dn kd := by
  have hB := Q.2.2.2.2.2.1
  have okB := Q.2.2.2.2.1.1
  have ok5 := (Q.2.2.2.2.1.2 5 (by omega)).2.1
  have len5 : hp_l h (B + 1 + 5) = 64 := by rw [(Q.2.2.2.2.1.2 5 (by omega)).2.2]; rfl
  obtain ⟨A1, x1, x2, -⟩ := c_add (op := 9) (tl := -1) (bs := -1) (dg := -1) (ob := -1) Q S hE
  have x3 := cs_setj (i := i) (A' := up_2 A1 (B + 6) i (nI (m + 1))) (pj := some (m + 1)) (qj := some (m + 1)) x2 hB (by rw [ln_a]; omega) (fun r k hrk => u2 (by omega)) (fun y hy => by cases hy; exact u2s)
  rw [set_ap (by omega)] at x3
  have x4 := cs_setj (A' := up_2 (up_2 A1 (B + 6) i (nI (m + 1))) (B + 6) m (nI E.length)) (i := m) (pj := some E.length) (qj := some E.length) x3 hB (by rw [ln_a, List.length_set]; omega) (fun r k hrk => u2 (by omega)) (fun y hy => by cases hy; exact u2s)
  rw [set_ap (by rw [List.length_set]; omega)] at x4
  refine ⟨_, ?_, x4⟩
  have m1 : ¬ nI m = -1 := nI_ne1 (by omega)
  unfold b_X6_readBranches_60
  rw [q_co Q, Option.bind_some, q_v okB, Option.bind_some, show f_X0_add B (9 : Int32) (-1 : Int32) (-1 : Int32) (-1 : Int32) (-1 : Int32) (sA h A) = _ from x1, Option.bind_some, q_co Q, Option.bind_some, q_cr Q (by omega), Option.bind_some, if_neg m1, and63 (by omega)]
  unfold b_X6_readBranches_96 b_X6_readBranches_99
  rw [da, q_s ok5 (by omega) (by omega), Option.bind_some, if_neg m1]
  unfold b_X6_readBranches_105
  rw [q_co Q, Option.bind_some, q_cr Q (by omega), Option.bind_some, and63 (by omega), q_s ok5 (by omega) (by omega), Option.bind_some]
  exact ok_z_1
/-- the class, into the blocks -/
theorem c_108 {l d : Int32} (Q : CQ h B) (S : CS Z tp n cnt B A j th hd ne st E AL SL ow lb mb mk dn kd) (hE : E.length < 64) (hn : ne < 4) :
    ∃ A1, b_X6_readIf_108 rc 68 l d (sA h A) = ((rc 68 (nI hd) (sA h A1)).bind fun q3 => if q3.1 = 0 then b_X6_readBranches_13 rc q3.2 else b_X6_readBranches_15 rc 68 (nI E.length) (nI hd) q3.2).bind (fun q7 => (g_i q7.2 68 6 8).bind fun x8 => (p_i q7.2 68 6 8 (x8 - (1 : Int32))).bind fun h9 => ok_z q7.1 h9) ∧
      CS Z tp n cnt B A1 j th hd (ne + 1) st (E ++ [(7, l, -1, d, -1, none, none, -1, th)]) AL SL ow lb mb mk dn kd := by
  have okB := Q.2.2.2.2.1.1
  have x0 := cs_ne (ne' := ne + 1) Q S (by omega)
  obtain ⟨A1, x1, x2, -⟩ := c_add (op := 7) (tl := l) (bs := -1) (dg := d) (ob := -1) Q x0 hE
  refine ⟨A1, ?_, x2⟩
  unfold b_X6_readIf_108
  rw [q_i Q.1.1, Option.bind_some, S.2.1.2.2, da, q_p Q.1.1, Option.bind_some, q_co Q, Option.bind_some, q_v okB, Option.bind_some, show f_X0_add B (7 : Int32) l (-1 : Int32) d (-1 : Int32) (sA h (up_2 A 68 8 (nI (ne + 1)))) = _ from x1, Option.bind_some, q_v Q.1.1, Option.bind_some]
  congr 1
  unfold f_X6_readBranches b_X6_readBranches_0
  rw [q_i Q.1.1, Option.bind_some, x2.2.1.2.1, q_v Q.1.1, Option.bind_some]
theorem c_out0 {K p : Nat} (Q : CQ h B) (F : CF Z B A K p) : ∃ A', (some ((0 : Int32), sA h A)).bind (fun q7 => (g_i q7.2 68 6 8).bind fun x8 => (p_i q7.2 68 6 8 (x8 - (1 : Int32))).bind fun h9 => ok_z q7.1 h9) = some (0, sA h A') ∧ CF Z B A' K p := by
  refine ⟨up_2 A 68 8 (A 68 8 - 1), ?_, ⟨by rw [u2 (by omega)]; exact F.1.1, by rw [u2 (by omega)]; exact F.1.2⟩, fun r k hr => by rw [u2 (by omega)]; exact F.2 r k hr⟩
  rw [Option.bind_some, q_i Q.1.1, Option.bind_some, q_p Q.1.1, Option.bind_some]
  exact ok_z_0
theorem c_out1 (Q : CQ h B) (S : CS Z tp n cnt B A j th hd (ne + 1) st E AL SL ow lb mb mk dn kd) : ∃ A', (some ((1 : Int32), sA h A)).bind (fun q7 => (g_i q7.2 68 6 8).bind fun x8 => (p_i q7.2 68 6 8 (x8 - (1 : Int32))).bind fun h9 => ok_z q7.1 h9) = some (1, sA h A') ∧ CS Z tp n cnt B A' j th hd ne st E AL SL ow lb mb mk dn kd := by
  have hn := S.2.2.2.2.2.2.2.2.2.2.2.2.2.2
  refine ⟨_, ?_, cs_ne (ne' := ne) Q S (by omega)⟩
  rw [Option.bind_some, q_i Q.1.1, Option.bind_some, S.2.1.2.2, show nI (ne + 1) - 1 = nI ne from by rw [← nI_1, Int32.add_sub_cancel], q_p Q.1.1, Option.bind_some]
  exact ok_z_1
end
section
variable {Z Z2 : Nat → Nat → Int32} {tp : Nat → Nat} {n cnt B : Nat} {h g : AH} {A A2 A' A2' : Nat → Nat → Int32} {j0 tc j th hd ne st b p tc' j' hd' st' : Nat} {E L : List Ent} {AL AL' : List Act} {SL : List Nat} {ow ow' : Nat → Int32} {lb mb mk dn lb' mb' mk' dn' : Int32} {kd : Nat → Int32} {rc rcC : Nat → Int32 → AH → Option (Int32 × AH)} {x : Ent} {rC rR : Option (Int32 × AH)}
theorem jg_if (b1 : SL.length = th + 1) (b2 : E.length + 1 ≤ 3 * st + SL.length) (b3 : tc ≤ 9 * st + 3 * SL.length) (NP : ne = 0 → ∀ x, x ∈ E → npE x) (SLb : ∀ s, s ∈ SL → s ≤ E.length) (eC : rC = some (1, sA h A')) (eR : rR = some (1, sA g A2'))
    (S : CS Z tp n cnt B A' j' th hd' ne st' L AL' SL ow' lb' mb' mk' dn' kd) (S2 : RR Z2 tp n A2' j0 tc' j' th hd' ne st' L AL' SL ow' lb' mb' mk' dn' kd) (I : lbI ow' lb') (V : LV th L AL' SL ow' mk' dn' kd)
    (hT : TLn tp n j0 tc' = RN SL L) (h0 : st < st') (h1 : L.length + 3 * st ≤ E.length + 3 * st') (h2 : tc' + 9 * st ≤ tc + 9 * st') (p1 : E.length ≤ L.length) (p2 : ∀ e, e < E.length → L.getD e dE = E.getD e dE) (p3 : ∀ e, E.length ≤ e → e < L.length → npE (L.getD e dE)) (hA : ∃ Y, AL' = AL ++ Y) (hd0 : dn' = dn) (NL : nst L = some ne) : JG Z Z2 B h g tp n cnt j0 th ne SL kd tc st E AL dn [] (fun _ => True) rC rR := by
  obtain ⟨X, x1, x2⟩ := px_mk p1 p2 p3
  refine ⟨A', A2', tc', j', hd', st', L, AL', ow', lb', mb', mk', dn', eC, eR, ⟨S, S2, I, V, ⟨b1, by omega, by omega⟩, fun hz y hy => ?_, fun s hs => by have := SLb s hs; omega, NL⟩, by rw [List.append_nil]; exact hT, ⟨trivial, fun _ => h0⟩, ⟨by omega, h1, h2⟩, ⟨X, x1, x2⟩, hA, fun _ => hd0⟩
  rw [x1] at hy
  rcases List.mem_append.mp hy with hy | hy
  · exact NP hz y hy
  · exact x2 y hy
/-- dn's entry lies before the test -/
theorem dn_lt (V : LV th E AL SL ow mk dn kd) (h8 : AL'.length ≤ 8) (hA : ∃ Y, AL' = AL ++ Y) (e : dn' = dn) : ∀ d, d < AL'.length → dn' = nI d → (AL'.getD d dA).2.2.2.2 < E.length := fun d hd e2 => by
  obtain ⟨Y, rfl⟩ := hA
  obtain e1 | ⟨dd, d1, d2, -⟩ := V.2.2.2.1.2.2
  · rw [← e, e2] at e1
    exact absurd e1 (nI_ne1 (by omega))
  · have : d = dd := by
      have ll := List.length_append (as := AL) (bs := Y)
      rw [e, d2] at e2
      exact ((nI_eq (by omega) (by omega)).mp e2).symm
    subst this
    rw [ext_g _ d1]
    exact (V.2.1.1 d d1).1
/-- behind the first block -/
theorem j_if1 {i s0 : Nat} (Q : CQ h B) (R : RZ g) (K : BLK Z Z2 B h g tp n cnt j0 th (ne + 1) SL kd s0 rcC rc) (h0 : s0 ≤ st) (S : CS Z tp n cnt B A j th hd (ne + 1) st E AL SL ow lb mb mk dn kd) (S2 : RR Z2 tp n A2 j0 tc j th hd ne st E AL SL ow lb mb mk dn kd) (I : lbI ow lb) (V : LV th E AL SL ow mk dn kd) (b1 : SL.length = th + 1) (b2 : E.length + 3 ≤ 3 * st + SL.length) (b3 : tc + 3 ≤ 9 * st + 3 * SL.length) (SLb : ∀ s, s ∈ SL → s ≤ E.length)
    (hT : TLn tp n j0 tc = RN SL E ++ [706]) (hi : i < E.length) (g7 : en_op (E.getD i dE) = 7) (gn : en_jp (E.getD i dE) = none) (gt : en_te (E.getD i dE) = th) (hdn : ∀ d, d < AL.length → dn = nI d → (AL.getD d dA).2.2.2.2 < i) (NE : nst E = some (ne + 1)) :
    (∃ A' A2' tc' j' st' L AL' ow' lb' mb' mk', b_X6_readBranches_15 rcC 68 (nI i) (nI hd) (sA h A) = some (1, sA h A') ∧ b_X11_asks_129 rc 102 (nI (rxl E i)) (nI hd) (sA g A2) = some (1, sA g A2') ∧ CS Z tp n cnt B A' j' th hd (ne + 1) st' L AL' SL ow' lb' mb' mk' dn kd ∧ RR Z2 tp n A2' j0 tc' j' th hd ne st' L AL' SL ow' lb' mb' mk' dn kd ∧ lbI ow' lb' ∧ LV th L AL' SL ow' mk' dn kd ∧ TLn tp n j0 tc' = RN SL L ∧
      (st ≤ st' ∧ L.length + 3 * st ≤ E.length + 2 + 3 * st' ∧ tc' + 9 * st ≤ tc + 3 + 9 * st' ∧ E.length ≤ L.length) ∧ (∀ e, e < E.length → e ≠ i → L.getD e dE = E.getD e dE) ∧ (∀ e, e = i ∨ E.length ≤ e → e < L.length → npE (L.getD e dE)) ∧ nst L = some ne ∧ ∃ Y, AL' = AL ++ Y) ∨
    (∃ K p A' A2', b_X6_readBranches_15 rcC 68 (nI i) (nI hd) (sA h A) = some (0, sA h A') ∧ CF Z B A' K p ∧ b_X11_asks_129 rc 102 (nI (rxl E i)) (nI hd) (sA g A2) = some (0, sA g A2') ∧ FT Z2 tp n K p A2') := by
  have hB := Q.2.2.2.2.2.1
  have okB := Q.2.2.2.2.1.1
  have bC := S.2.2.2.2.2.2.2.2
  have b4 : SL.length ≤ 4 := bC.2.1
  have b8 : AL.length ≤ 8 := bC.2.2.1
  have s20 : st ≤ 20 := bC.2.2.2.1
  have n4 : ne + 1 ≤ 4 := bC.2.2.2.2.2.2
  have hSL : 0 < SL.length := by omega
  have ri := rxl_le (E := E) (e := i)
  have C := cd_3 (tk_code (tp := tp) (n := n) (j := j))
  have ej : j = j0 + tc := S2.2.2.2.2.2.2.2.2.1.2.1 hSL
  unfold b_X6_readBranches_15 b_X11_asks_129
  rw [q_68 Q, Option.bind_some, c_k Q, Option.bind_some, v_g R, Option.bind_some, S2.1.1.2.2.1]
  by_cases e8 : (tk tp n j).1 = 208
  · rw [if_pos ((ct_10 S).mpr e8), if_pos (show nI (tk tp n j).1 = (208 : Int32) by rw [e8]; rfl)]
    have jj := cs_j S (show (tk tp n j).1 ≠ 0 by omega)
    obtain ⟨A5, a1, a2, -⟩ := c_adv Q S (by omega)
    obtain ⟨A6, a3, a4, -⟩ := c_add (op := 8) (tl := -1) (bs := -1) (dg := -1) (ob := -1) Q a2 (by omega)
    obtain ⟨B6, s1, s2, -⟩ := s_emit (x := (8, -1, -1, -1, -1, none, none, -1, th)) (a0 := 8) (a1 := 0) (a2 := 0) (a3 := 0) (a4 := 0) R S2 (by omega) (by show (8 : Nat) ≠ 9; decide) rfl (fun F f1 f2 f3 f4 f5 => ⟨f1, fun (z : 8 = 0 ∨ 8 = 2) => absurd z (by decide), fun (z : 8 = 2) => absurd z (by decide), fun (z : 8 = 1) => absurd z (by decide), fun (z : 8 = 3 ∨ 8 = 4) => absurd z (by decide), fun (z : 8 = 5) => absurd z (by decide), fun (z : 8 = 6) => absurd z (by decide), fun (z : 8 = 7) => absurd z (by decide), fun _ y hy => by cases hy⟩)
    have V3 := lv_89 (op := 8) V b1 b4 b8 (Or.inl rfl)
    have gi : (E ++ [(8, -1, -1, -1, -1, none, none, -1, th)]).getD i dE = E.getD i dE := gd_l hi
    have rx3 : rxl (E ++ [(8, -1, -1, -1, -1, none, none, -1, th)]) i = rxl E i := rxl_a (by omega)
    have T3 : RN SL (E ++ [(8, -1, -1, -1, -1, none, none, -1, th)]) = RN SL E ++ [706, 208, 705] := rn_a SLb
    have gm : (E ++ [(8, -1, -1, -1, -1, none, none, -1, th)]).getD E.length dE = (8, -1, -1, -1, -1, none, none, -1, th) := gd_e
    have l3 : (E ++ [(8, -1, -1, -1, -1, none, none, -1, th)]).length = E.length + 1 := ln_a
    have go : ∀ e, e < E.length → (E ++ [(8, -1, -1, -1, -1, none, none, -1, th)]).getD e dE = E.getD e dE := fun e he => gd_l he
    have rxm : rxl (E ++ [(8, -1, -1, -1, -1, none, none, -1, th)]) E.length = rxl E E.length := rxl_a (Nat.le_refl _)
    have N3 : nst (E ++ [(8, -1, -1, -1, -1, none, none, -1, th)]) = some (ne + 1) := by rw [nst_af rfl, NE]; rfl
    generalize hE3 : E ++ [(8, -1, -1, -1, -1, none, none, -1, th)] = E3 at *
    have s3 := s_jq (e := i) (k := 3) (pj := none) s2 (by omega) (by rw [gi, g7]; rfl) (by rw [gi]; exact Or.inl g7)
    obtain ⟨B7, s4, s5, -⟩ := r_next R s3 hSL (by omega)
    have a5 := cs_jq (qj := some E3.length) (i := i) a4 hB (by omega)
    rw [gi, gn] at a5
    rw [gi] at s5
    have V4 := lv_setq (qj := some E3.length) (i := i) V3 (by omega) (fun d hd e => Nat.le_of_lt (hdn d hd e))
    rw [gi] at V4
    have T4 : RN SL (E3.set i (sJ (E3.getD i dE) none (some E3.length))) = RN SL E3 := rn_set (by omega)
    rw [gi] at T4
    have N4 : nst (E3.set i (sJ (E3.getD i dE) none (some E3.length))) = nst E3 := nst_set (by omega)
    rw [gi] at N4
    have l4 : (E3.set i (sJ (E.getD i dE) none (some E3.length))).length = E.length + 1 := by rw [List.length_set, l3]
    have go4 : ∀ e, (E3.set i (sJ (E.getD i dE) none (some E3.length))).getD e dE = if e = i then sJ (E.getD i dE) none (some E3.length) else E3.getD e dE := fun e => set_g (by omega)
    have rx4 : ∀ z, rxl (E3.set i (sJ (E.getD i dE) none (some E3.length))) z = rxl E3 z := fun z => rxl_set (by omega) (by rw [gi]; rfl)
    generalize hL3 : E3.set i (sJ (E.getD i dE) none (some E3.length)) = L3 at *
    have J2 : JP Z Z2 B tp n cnt j0 th (ne + 1) SL kd A6 (up_2 (up_2 B7 102 18 (nI hd)) 102 19 (nI (ne + 1))) (tc + 1) (j + 1) hd st L3 AL ow lb mb mk dn := ⟨a5, s_br0 s5 (by omega), I, V4, ⟨b1, by omega, by omega⟩, fun z => absurd z (by omega), fun s hs => by have := SLb s hs; omega, by rw [N4]; exact N3⟩
    have T5 : TLn tp n j0 (tc + 1) ++ [705] = RN SL L3 := by
      rw [T4, T3, tln_s, hT, ← ej, e8, List.append_assoc, List.append_assoc]
      rfl
    have rc0 : b_X11_asks_158 rc 102 (nI (rxl E i)) (nI hd) (sA g A2) = (f_X11_branch rc 102 (nI hd) (sA g B7)).bind fun q9 => if q9.1 = 0 then b_X11_asks_200 rc q9.2 else b_X11_asks_202 rc 102 (nI (rxl E E.length)) q9.2 := by
      unfold b_X11_asks_158
      rw [v_v R, Option.bind_some, show f_X11_emit 102 (8 : Int32) (0 : Int32) (0 : Int32) (0 : Int32) (0 : Int32) (sA g A2) = _ from s1, Option.bind_some, v_r7 R, Option.bind_some, v_g R, Option.bind_some, s2.2.1.2.1, mu, ad, da, v_s7 R (by omega), Option.bind_some, v_v R, Option.bind_some, ← rx3, s4, Option.bind_some, v_v R, Option.bind_some]
    rw [rc0]
    unfold b_X6_readBranches_29
    rw [q_68 Q, Option.bind_some, q_v Q.2.2.2.2.2.2.1, Option.bind_some, a1, Option.bind_some, q_co Q, Option.bind_some, q_v okB, Option.bind_some, show f_X0_add B (8 : Int32) (-1 : Int32) (-1 : Int32) (-1 : Int32) (-1 : Int32) (sA h A5) = _ from a3, Option.bind_some, q_v Q.1.1, Option.bind_some]
    obtain ⟨A7, B8, tc2, j2, hd2, st2, L4, AL2, ow2, lb2, mb2, mk2, dn2, g1, g2, ⟨c1, c2, c3, V5, ⟨-, c5, c6⟩, -, c8, cN⟩, T6, hh, ⟨⟨t1, t2, t3⟩, ⟨X, hX0, hX⟩, ⟨Y, rfl⟩, hdn2⟩⟩ | ⟨K0, p0, A7, B8, g1, g2, g3, g4⟩ := K _ _ _ _ _ _ _ _ _ _ _ _ _ J2 T5 h0 (by omega)
    · left
      have hh : hd = hd2 := hh.1.symm
      subst hh
      have hdn2 := hdn2 (by omega)
      subst hdn2
      have b9 := c1.2.2.2.2.2.2.2.2
      have b9' : (AL ++ Y).length ≤ 8 := b9.2.2.1
      have b9s : st2 ≤ 20 := b9.2.2.2.1
      have lL : E.length + 1 ≤ L4.length := by rw [hX0, List.length_append, l4]; omega
      have gL : ∀ e, e < E.length + 1 → L4.getD e dE = L3.getD e dE := fun e he => by rw [hX0]; exact gd_ap (by omega)
      have npL : ∀ e, E.length + 1 ≤ e → e < L4.length → npE (L4.getD e dE) := fun e h1 h2 => by
        rw [hX0] at h2 ⊢
        exact np_g hX (by omega) h2
      have rxL : ∀ z, z ≤ E.length + 1 → rxl L4 z = rxl L3 z := fun z hz => by rw [hX0]; exact rxl_ax (by omega)
      clear hX0 hX
      have L4i : L4.getD i dE = sJ (E.getD i dE) none (some E3.length) := by rw [gL i (by omega), go4, if_pos rfl]
      have L4m : L4.getD E.length dE = (8, -1, -1, -1, -1, none, none, -1, th) := by rw [gL _ (by omega), go4, if_neg (by omega), gm]
      obtain ⟨A9, d1, d2⟩ := c_end1 (rc := rcC) (i := i) (m := E.length) Q c1 (by omega) hi (by omega)
      obtain ⟨B9, r1, r2⟩ := s_br1 R s5 g2 c2
      have r3 := rr_jp (e := i) (pj := some (E.length + 1)) r2 (by omega)
      have q1 : en_jq (L4.getD i dE) = some (E.length + 1) := by rw [L4i, ← l3]; rfl
      rw [q1] at r3
      have V6 := lv_89 (op := 9) V5 b1 b4 b9' (Or.inr rfl)
      have hdnA : ∀ d, d < (AL ++ Y).length → dn2 = nI d → ((AL ++ Y).getD d dA).2.2.2.2 < i := fun d hd e => by
        obtain e1 | ⟨dd, d1, d2, -⟩ := V.2.2.2.1.2.2
        · rw [e] at e1
          exact absurd e1 (nI_ne1 (by omega))
        · have : d = dd := by
            rw [d2] at e
            exact ((nI_eq (by omega) (by omega)).mp e).symm
          subst this
          rw [ext_g _ d1]
          exact hdn d d1 d2
      have L4t : en_te ((L4 ++ [(9, -1, -1, -1, -1, none, none, -1, th)]).getD (E.length + 1) dE) = th := by
        refine ((V6.1 E.length (by rw [ln_a]; omega)).1.2.2.1 ?_).2 (by rw [ln_a]; omega)
        rw [gd_l (by omega), L4m]; rfl
      have V7 := lv_setj (i := i) (y := E.length + 1) V6 (by rw [ln_a]; omega) (by omega) (by rw [ln_a]; omega) (by rw [L4t, gd_l (by omega), L4i]; exact gt.symm) (fun d hd e => Nat.le_of_lt (hdnA d hd e))
      rw [set_ap (by omega)] at V7
      have l5 : (L4.set i (sJ (L4.getD i dE) (some (E.length + 1)) (some (E.length + 1)))).length = L4.length := List.length_set ..
      have g5 : ∀ e, (L4.set i (sJ (L4.getD i dE) (some (E.length + 1)) (some (E.length + 1)))).getD e dE = if e = i then sJ (L4.getD i dE) (some (E.length + 1)) (some (E.length + 1)) else L4.getD e dE := fun e => set_g (by omega)
      have rx5 : ∀ z, rxl (L4.set i (sJ (L4.getD i dE) (some (E.length + 1)) (some (E.length + 1)))) z = rxl L4 z := fun z => rxl_set (by omega) rfl
      have T7 : RN SL (L4.set i (sJ (L4.getD i dE) (some (E.length + 1)) (some (E.length + 1)))) = RN SL L4 := rn_set (by omega)
      have N5 : nst (L4.set i (sJ (L4.getD i dE) (some (E.length + 1)) (some (E.length + 1)))) = nst L4 := nst_set (by omega)
      generalize L4.set i (sJ (L4.getD i dE) (some (E.length + 1)) (some (E.length + 1))) = L5 at *
      have L5m : L5.getD E.length dE = (8, -1, -1, -1, -1, none, none, -1, th) := by rw [g5, if_neg (by omega), L4m]
      have rxm5 : rxl L5 E.length = rxl E E.length := by rw [rx5, rxL _ (by omega), rx4, rxm]
      have r4 := s_jq (e := E.length) (k := 1) (pj := some L5.length) r3 (by omega) (by rw [L5m]; rfl) (by rw [L5m]; exact Or.inr rfl)
      have r5 := s_close (x := (9, -1, -1, -1, -1, none, none, -1, th)) r4 (by rw [List.length_set]; omega) rfl rfl
      have V8 := lv_setj (i := E.length) (y := L5.length) V7 (by rw [ln_a]; omega) (by omega) (by rw [ln_a]; omega) (by rw [gd_e, gd_l (by omega), L5m]; rfl) (fun d hd e => by have := hdnA d hd e; omega)
      rw [set_ap (by omega)] at V8
      rw [l5] at r5 V8
      have rmE := rxl_le (E := E) (e := E.length)
      refine ⟨A9, _, tc2, j2, st2, _, AL ++ Y, ow2, lb2, mb2, mk2, ?_, ?_, d2, r5, c3, V8, ?_, ⟨t1, by rw [ln_a, List.length_set]; omega, by omega, by rw [ln_a, List.length_set]; omega⟩, fun e he hne => ?_, fun e he hl => ?_, by rw [nst_af rfl, nst_set (by omega), N5, cN]; rfl, Y, rfl⟩
      · rw [g1, Option.bind_some, if_neg n10]; exact d1
      · rw [r1, Option.bind_some, if_neg n10]
        unfold b_X11_asks_202
        rw [v_r7 R, Option.bind_some, v_g R, Option.bind_some, r2.2.1.2.1, mu, ad, da, v_s7 R (by omega), Option.bind_some, rxm5, rx5]
        exact ok_z_1
      · rw [T6, rn_a (fun s hs => by rw [List.length_set]; have := c8 s hs; omega), rn_set (by omega), T7]
        rfl
      · rw [gd_l (by rw [List.length_set]; omega), set_g (by omega), if_neg (by omega), g5, if_neg hne, gL e (by omega), go4, if_neg hne, go e he]
      · rw [ln_a, List.length_set] at hl
        by_cases q : e = L5.length
        · have : (L5.set E.length (sJ (L5.getD E.length dE) (some L4.length) (some L4.length))).length = e := by rw [List.length_set, q]
          rw [← this, gd_e]
          exact np_9 (Or.inl rfl)
        · rw [gd_l (by rw [List.length_set]; omega), set_g (by omega)]
          by_cases q2 : e = E.length
          · rw [if_pos q2]; exact np_j
          · rw [if_neg q2, g5]
            by_cases q3 : e = i
            · rw [if_pos q3]; exact np_j
            · rw [if_neg q3]
              exact npL e (by omega) (by omega)
    · right
      refine ⟨K0, p0, A7, B8, ?_, g2, ?_, g4⟩
      · rw [g1, Option.bind_some, if_pos rfl]; exact ok_z_0
      · rw [s_br2 R s5 g3, Option.bind_some, if_pos rfl]; exact ok_z_0
  · left
    rw [if_neg (fun z => e8 ((ct_10 S).mp z)), if_neg (show ¬ nI (tk tp n j).1 = (208 : Int32) from fun z => e8 ((nI_eq (b := 208) (by omega) (by omega)).mp z))]
    obtain ⟨A9, d1, d2⟩ := c_end0 (rc := rcC) (i := i) Q S (by omega) hi
    have s3 := s_jq (e := i) (k := 3) (pj := some E.length) S2 hi (by rw [g7]; rfl) (Or.inl g7)
    have s4 := s_close (x := (9, -1, -1, -1, -1, none, none, -1, th)) s3 (by rw [List.length_set]; omega) rfl rfl
    have V3 := lv_89 (op := 9) V b1 b4 b8 (Or.inr rfl)
    have V4 := lv_setj (i := i) (y := E.length) V3 (by rw [ln_a]; omega) hi (by rw [ln_a]; omega) (by rw [gd_e, gd_l hi, gt]; rfl) (fun d hd e => Nat.le_of_lt (hdn d hd e))
    rw [set_ap hi] at V4
    refine ⟨A9, _, tc, j, st, _, AL, ow, lb, mb, mk, d1, ?_, d2, s4, I, V4, ?_, ⟨Nat.le_refl _, by rw [ln_a, List.length_set]; omega, by omega, by rw [ln_a, List.length_set]; omega⟩, fun e he hne => by rw [gd_l (by rw [List.length_set]; exact he), set_g hi, if_neg hne], fun e he hl => ?_, by rw [nst_af rfl, nst_set hi, NE]; rfl, [], (List.append_nil _).symm⟩
    · unfold b_X11_asks_139
      rw [v_r7 R, Option.bind_some, v_g R, Option.bind_some, S2.2.1.2.1, mu, ad, da, v_s7 R (by omega), Option.bind_some]
      exact ok_z_1
    · rw [hT, rn_a (fun s hs => by rw [List.length_set]; exact SLb s hs), rn_set hi]
      rfl
    · rw [ln_a, List.length_set] at hl
      by_cases q : e = E.length
      · have : (E.set i (sJ (E.getD i dE) (some E.length) (some E.length))).length = e := by rw [List.length_set, q]
        rw [← this, gd_e]
        exact np_9 (Or.inl rfl)
      · have : e = i := by omega
        rw [this, gd_l (by rw [List.length_set]; exact hi), set_g hi, if_pos rfl]
        exact np_j
theorem j_if (Q : CQ h B) (R : RZ g) (J : JP Z Z2 B tp n cnt j0 th ne SL kd A A2 tc j hd st E AL ow lb mb mk dn) (hT : TLn tp n j0 tc = RN SL E) (hc : (tk tp n j).1 = 207) (n3 : ne ≤ 3) (K : ne < 3 → st < 20 → BLK Z Z2 B h g tp n cnt j0 th (ne + 1) SL kd (st + 1) rcC rc) :
    JG Z Z2 B h g tp n cnt j0 th ne SL kd tc st E AL dn [] (fun _ => True) (f_X6_readIf rcC 68 (sA h A)) (b_X11_statement_79 rc 102 (nI (tk tp n j).2.1) (sA g A2)) ∨
    JF Z Z2 B h g tp n (f_X6_readIf rcC 68 (sA h A)) (b_X11_statement_79 rc 102 (nI (tk tp n j).2.1) (sA g A2)) := by
  obtain ⟨A1, B1, l, d, ow1, lb1, eC, eR, S, S2, ⟨st20, ne3, l5, d9⟩, o1, I1, L1, X1, T1⟩ | F := j_head (rc := rc) (rcC := rcC) Q R J hT hc n3
  · have K := K ne3 st20
    obtain ⟨-, -, -, V, ⟨b1, b2, b3⟩, NP, SLb, NT⟩ := J
    have bC := S.2.2.2.2.2.2.2.2
    have b4 : SL.length ≤ 4 := bC.2.1
    have b8 : AL.length ≤ 8 := bC.2.2.1
    rw [eC, eR]
    have hSL : 0 < SL.length := by omega
    obtain ⟨A3, y1, y2⟩ := c_108 (rc := rcC) (l := nI l) (d := nI d) Q S (by omega) (by omega)
    have V1 := lv_if V b1 b4 b8 L1 X1 l5 o1 d9
    have J1 : JP Z Z2 B tp n cnt j0 th (ne + 1) SL kd A3 (up_2 (up_2 B1 102 18 (nI hd)) 102 19 (nI (ne + 1))) (tc + 4) (j + 4) hd (st + 1) (E ++ [(7, nI l, -1, nI d, -1, none, none, -1, th)]) AL ow1 lb1 mb mk dn := ⟨y2, s_br0 S2 (by omega), I1, V1, ⟨b1, by rw [ln_a]; omega, by omega⟩, fun z => absurd z (by omega), fun s hs => by rw [ln_a]; have := SLb s hs; omega, by rw [nst_af rfl, NT]; rfl⟩
    have T2 : TLn tp n j0 (tc + 4) ++ [705] = RN SL (E ++ [(7, nI l, -1, nI d, -1, none, none, -1, th)]) := by
      rw [rn_a SLb, T1, List.append_assoc]
      show _ = RN SL E ++ [207, 400 + ix (nI l), 702, 600 + ix (nI d), 705]
      rw [ix_nI (by omega), ix_nI (by omega)]
      rfl
    rw [y1]
    unfold b_X11_asks_118
    rw [v_v R, Option.bind_some]
    obtain ⟨A4, B4, tc1, j1, hd1, st1, E2, AL1, ow2, lb2, mb2, mk2, dn2, g1, g2, ⟨c1, c2, c3, V2, ⟨-, c5, c6⟩, -, c8, cN⟩, T3, hh, ⟨⟨t1, t2, t3⟩, ⟨X, rfl, hX⟩, ⟨Y, rfl⟩, hdn⟩⟩ | ⟨K0, p0, A4, B4, g1, g2, g3, g4⟩ := K _ _ _ _ _ _ _ _ _ _ _ _ _ J1 T2 (Nat.le_refl _) (by omega)
    · have hh : hd = hd1 := hh.1.symm
      subst hh
      have hdn := hdn (by omega)
      subst hdn
      obtain ⟨B5, r1, r2⟩ := s_br1 R S2 g2 c2
      rw [g1, Option.bind_some, if_neg n10, r1, Option.bind_some, if_neg n10]
      have l1 : (E ++ [(7, nI l, -1, nI d, -1, none, none, -1, th)] ++ X).length = E.length + 1 + X.length := by rw [List.length_append, ln_a]
      have ge : ∀ e, e < E.length + 1 → (E ++ [(7, nI l, -1, nI d, -1, none, none, -1, th)] ++ X).getD e dE = (E ++ [(7, nI l, -1, nI d, -1, none, none, -1, th)]).getD e dE := fun e he => gd_ap (by rw [ln_a]; exact he)
      have gi : (E ++ [(7, nI l, -1, nI d, -1, none, none, -1, th)] ++ X).getD E.length dE = (7, nI l, -1, nI d, -1, none, none, -1, th) := by rw [ge _ (by omega), gd_e]
      have npX : ∀ e, E.length + 1 ≤ e → e < (E ++ [(7, nI l, -1, nI d, -1, none, none, -1, th)] ++ X).length → npE ((E ++ [(7, nI l, -1, nI d, -1, none, none, -1, th)] ++ X).getD e dE) := fun e h1 h2 => np_g hX (by rw [ln_a]; exact h1) h2
      have ge0 : ∀ e, e < E.length → (E ++ [(7, nI l, -1, nI d, -1, none, none, -1, th)] ++ X).getD e dE = E.getD e dE := fun e he => by rw [ge e (by omega), gd_l he]
      have rxi : rxl (E ++ [(7, nI l, -1, nI d, -1, none, none, -1, th)] ++ X) E.length = rxl E E.length := by rw [rxl_ax (by rw [ln_a]; omega), rxl_a (Nat.le_refl _)]
      have b9 : (AL ++ Y).length ≤ 8 := c1.2.2.2.2.2.2.2.2.2.2.1
      have dl := dn_lt V b9 ⟨Y, rfl⟩ rfl
      rw [ln_a] at t2
      generalize E ++ [(7, nI l, -1, nI d, -1, none, none, -1, th)] ++ X = E2 at *
      obtain ⟨A6, B6, tc2, j2, st2, L, AL2, ow3, lb3, mb3, mk3, w1, w2, w3, w4, w5, w6, w7, ⟨w8, w9, w10, w11⟩, w12, w13, wN, Y2, w14⟩ | ⟨K1, p1, A6, B6, w1, w2, w3, w4⟩ := j_if1 (i := E.length) Q R K t1 c1 r2 c3 V2 b1 (by omega) (by omega) c8 T3 (by omega) (by rw [gi]; rfl) (by rw [gi]; rfl) (by rw [gi]; rfl) dl cN
      · left
        obtain ⟨A7, v1, v2⟩ := c_out1 Q w3
        rw [rxi] at w2
        refine jg_if b1 b2 b3 NP SLb (by rw [w1]; exact v1) (by rw [w2]; exact ok_z_1) v2 w4 w5 w6 w7 (by omega) (by omega) (by omega) (by omega) (fun e he => by rw [w12 e (by omega) (by omega), ge0 e he]) (fun e h1 h2 => ?_) ⟨Y ++ Y2, by rw [w14, List.append_assoc]⟩ rfl wN
        by_cases q : e = E.length ∨ E2.length ≤ e
        · exact w13 e q h2
        · rw [w12 e (by omega) (by omega)]
          exact npX e (by omega) (by omega)
      · right
        obtain ⟨A7, v1, v2⟩ := c_out0 Q w2
        rw [rxi] at w3
        exact ⟨K1, p1, A7, B6, 0, by rw [w1]; exact v1, v2, by rw [w3]; exact ok_z_0, Or.inl rfl, w4⟩
    · right
      rw [g1, Option.bind_some, if_pos rfl, s_br2 R S2 g3, Option.bind_some, if_pos rfl]
      obtain ⟨A5, u1, u2⟩ := c_out0 Q g2
      refine ⟨K0, p0, A5, B4, 0, ?_, u2, ?_, Or.inl rfl, g4⟩
      · rw [show b_X6_readBranches_13 rcC (sA h A4) = _ from ok_z_0]; exact u1
      · rw [show b_X11_asks_127 rc (sA g B4) = _ from ok_z_0]; exact ok_z_0
  · exact Or.inr F
end
