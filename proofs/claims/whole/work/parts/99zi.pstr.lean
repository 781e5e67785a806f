/-! ===== the reference's reader: its exact steps ===== -/
theorem set_g {α : Type} {L : List α} {e i : Nat} {x d : α} (he : e < L.length) : (L.set e x).getD i d = if i = e then x else L.getD i d := by
  rw [List.getD_eq_getElem?_getD, List.getD_eq_getElem?_getD, List.getElem?_set]
  by_cases c : e = i
  · subst c
    rw [if_pos rfl, if_pos he, if_pos rfl]
    rfl
  · rw [if_neg c, if_neg (fun y => c y.symm)]
theorem rxl_set {E : List Ent} {e i : Nat} {x : Ent} (he : e < E.length) (ho : en_op x = en_op (E.getD e dE)) : rxl (E.set e x) i = rxl E i := by
  unfold rxl
  induction E generalizing e i with
  | nil => exact absurd he (by simp)
  | cons y E ih =>
    cases i with
    | zero => rfl
    | succ i =>
      cases e with
      | zero =>
        have : en_op x = en_op y := ho
        simp only [List.set_cons_zero, List.take_succ_cons, List.filter_cons, this]
        split <;> rfl
      | succ e =>
        have he' : e < E.length := by simp only [List.length_cons] at he; omega
        have := ih (e := e) (i := i) he' ho
        simp only [List.set_cons_succ, List.take_succ_cons, List.filter_cons]
        split
        · rw [List.length_cons, List.length_cons, this]
        · exact this
theorem rxl_inj {E : List Ent} {e e' : Nat} (he : e < E.length) (he' : e' < E.length) (h9 : en_op (E.getD e dE) ≠ 9) (h9' : en_op (E.getD e' dE) ≠ 9) (hr : rxl E e = rxl E e') : e = e' := by
  have a := rxl_lt he h9
  have b := rxl_lt he' h9'
  by_cases c : e < e'
  · have := rxl_mono (E := E) (e := e + 1) (e' := e') (by omega)
    omega
  · by_cases c2 : e' < e
    · have := rxl_mono (E := E) (e := e' + 1) (e' := e) (by omega)
      omega
    · omega
section
variable {Z : Nat → Nat → Int32} {tp : Nat → Nat} {n : Nat} {h : AH} {A A' : Nat → Nat → Int32} {j0 tc j th hd ne st : Nat} {E : List Ent} {AL : List Act} {SL : List Nat} {ow : Nat → Int32} {lb mb mk dn : Int32} {kd : Nat → Int32}
theorem rr_wb {p : Nat} (S : RR Z tp n A j0 tc j th hd ne st E AL SL ow lb mb mk dn kd) : WB Z tp n 0 p A j 64 := by
  obtain ⟨a, b, c, d, e, f, g, i, k, l⟩ := S
  refine ⟨a, Or.inl ⟨rfl, b.1⟩, ⟨_, b.2.1, ?_⟩, ⟨_, d.1, l.2.2.1⟩, ⟨_, d.2.2.2.2.2.2, k.2.2.1⟩⟩
  exact Nat.le_trans rxl_le l.1
theorem rr_fld {hd' ne' st' : Nat} {ow' : Nat → Int32} {lb' mb' mk' dn' : Int32} (S : RR Z tp n A j0 tc j th hd ne st E AL SL ow lb mb mk dn kd) (T : RT Z tp n A' j)
    (hk : ∀ r k, r ≠ 108 → ¬ (r = 107 ∧ (8 ≤ k ∧ k ≤ 11)) → ¬ (r = 102 ∧ (18 ≤ k ∧ k ≤ 23)) → A' r k = A r k) (h1 : ∀ l, l < 5 → A' 108 l = ow' l) (h18 : A' 102 18 = nI hd') (h19 : A' 102 19 = nI ne') (h20 : A' 102 20 = if dn' ≠ -1 ∧ mk' = nI th then 1 else 0)
    (h8 : A' 107 8 = nI st') (h9 : A' 107 9 = lb') (h10 : A' 107 10 = mb' ∧ mbI mb') (h11 : A' 107 11 = mk') (b1 : hd' < 4) (b2 : ne' ≤ 4) (b3 : st' ≤ 20) : RR Z tp n A' j0 tc j th hd' ne' st' E AL SL ow' lb' mb' mk' dn' kd := by
  obtain ⟨-, ⟨w1, w2, w3, w4, w5, w6⟩, c, ⟨d1, d2, d3, d4, d5, d6, d7⟩, e, f, g, i, k, l1, l2, l3, l4, l5, l6, l7⟩ := S
  have k7 : ∀ k, ¬ (8 ≤ k ∧ k ≤ 11) → A' 107 k = A 107 k := fun k hk' => hk _ _ (by omega) (by omega) (by omega)
  refine ⟨T, ⟨by rw [hk _ _ (by omega) (by omega) (by omega)]; exact w1, by rw [hk _ _ (by omega) (by omega) (by omega)]; exact w2, by rw [hk _ _ (by omega) (by omega) (by omega)]; exact w3, h18, h19, h20⟩, h1, ⟨by rw [k7 _ (by omega)]; exact d1, by rw [k7 _ (by omega)]; exact d2, h8, h9, h10, h11, by rw [k7 _ (by omega)]; exact d7⟩, fun q hq => by rw [k7 _ (by omega)]; exact e q hq, fun t ht => by rw [k7 _ (by omega)]; exact f t ht, fun m hm => ?_, fun x hx => ⟨fun h9 => ir_F (fun q hq => k7 _ (by omega)) ((i x hx).1 h9), (i x hx).2⟩, ⟨k.1, k.2.1, k.2.2.1, fun q hq => by rw [k7 _ (by omega)]; exact k.2.2.2 q hq⟩, l1, l2, l3, b3, l5, b1, b2⟩
  rw [k7 _ (by omega), k7 _ (by omega), k7 _ (by omega), k7 _ (by omega)]
  exact g m hm
theorem s_bad {k q : Nat} (R : RZ h) (S : RR Z tp n A j0 tc j th hd ne st E AL SL ow lb mb mk dn kd) (hq : q ≤ 1000) (h0 : 0 < k) (h8 : k < 8) : ∃ A', f_X11_bad 102 (nI k) (nI q) (sA h A) = some (sA h A') ∧ WB Z tp n k q A' j 64 ∧ ∀ r x, ¬ (r = 102 ∧ (x = 11 ∨ x = 12)) → A' r x = A r x := by
  obtain ⟨A', x1, x2, x3⟩ := w_bg (k := k) (p := q) (q := q) R (rr_wb S) (Or.inl rfl) hq h0 h8
  rw [bqq_e] at x2
  exact ⟨A', x1, x2, x3⟩
theorem s_need {c : Nat} (R : RZ h) (S : RR Z tp n A j0 tc j th hd ne st E AL SL ow lb mb mk dn kd) (h1 : 0 < SL.length) (htc : tc < 480) (hc : c < 1000) :
    ((tk tp n j).1 = c ∧ ∃ A', f_X11_need 102 (nI c) (sA h A) = some (1, sA h A') ∧ RR Z tp n A' j0 (tc + 1) (j + 1) th hd ne st E AL SL ow lb mb mk dn kd ∧ ∀ k, k ≠ 5 → k ≠ 6 → k ≠ 7 → A' 102 k = A 102 k) ∨
    ((tk tp n j).1 ≠ c ∧ ∃ A', f_X11_need 102 (nI c) (sA h A) = some (0, sA h A') ∧ FT Z tp n 1 (tk tp n j).2.1 A') := by
  have C := (cd_3 (tk_code (tp := tp) (n := n) (j := j))).2.2.2.2
  have P := tk_pl (tp := tp) (n := n) (j := j) S.1.2.1
  have hn := S.1.2.1
  unfold f_X11_need b_X11_need_0
  rw [v_g R, Option.bind_some, S.1.1.2.2.1]
  by_cases e : (tk tp n j).1 = c
  · left
    refine ⟨e, ?_⟩
    rw [e, if_pos rfl]
    obtain ⟨A', x1, x2, x3⟩ := r_next R S h1 htc
    unfold b_X11_need_19
    rw [v_v R, Option.bind_some, x1, Option.bind_some]
    exact ⟨A', ok_z_1, x2, x3⟩
  · right
    refine ⟨e, ?_⟩
    rw [if_neg (fun y => e ((nI_eq (by omega) (by omega)).mp y))]
    obtain ⟨A', x1, x2, -⟩ := s_bad (k := 1) (q := (tk tp n j).2.1) R S (by omega) (by omega) (by omega)
    unfold b_X11_need_8
    rw [v_g R, Option.bind_some, v_v R, Option.bind_some, S.1.1.2.2.2, show f_X11_bad 102 (1 : Int32) (nI (tk tp n j).2.1) (sA h A) = _ from x1, Option.bind_some]
    exact ⟨A', ok_z_0, by omega, _, _, x2⟩
theorem s_loc {l : Nat} {q : Int32} (R : RZ h) (S : RR Z tp n A j0 tc j th hd ne st E AL SL ow lb mb mk dn kd) (hl : l < 5) (ho : owL ow l th l = nI th) : ∃ A', f_X11_local 102 (nI l) q (sA h A) = some (sA h A') ∧ RR Z tp n A' j0 tc j th hd ne st E AL SL (owL ow l th) (lbL lb l) mb mk dn kd ∧ A' 102 = A 102 := by
  have S' := S
  obtain ⟨a, ⟨w1, w2, w3, w4, w5, w6⟩, c, ⟨d1, d2, d3, d4, d5, d6, d7⟩, e, f, g, i, k, l1, l2, l3, l4, l5, l6, l7⟩ := S
  have fin : ∀ A1 : Nat → Nat → Int32, (∀ r k, r ≠ 108 → A1 r k = A r k) → (∀ l', l' < 5 → A1 108 l' = owL ow l th l') → ∃ A', b_X11_local_39 102 (nI l) (sA h A1) = some (sA h A') ∧ RR Z tp n A' j0 tc j th hd ne st E AL SL (owL ow l th) (lbL lb l) mb mk dn kd ∧ A' 102 = A 102 := fun A1 hk h8 => by
    unfold b_X11_local_39
    rw [v_r7 R, Option.bind_some, show l_i (sA h A1) 107 (9 : Int32) = _ from v_l7 (k := 9) R (by omega), Option.bind_some, hk _ _ (by omega), d4, show ∀ v, s_i (sA h A1) 107 (9 : Int32) v = _ from fun v => v_s7 (k := 9) R (by omega), Option.bind_some]
    refine ⟨_, rfl, rr_fld S' (rt_cg a (fun r k k1 k2 k3 => by rw [u2 (by omega), hk _ _ k3])) (fun r k k1 k2 k3 => by rw [u2 (by omega), hk _ _ k1]) (fun l' hl' => by rw [u2 (by omega)]; exact h8 l' hl') ?_ ?_ ?_ ?_ u2s ?_ ?_ l6 l7 l4, ?_⟩
    · rw [u2 (by omega), hk _ _ (by omega)]; exact w4
    · rw [u2 (by omega), hk _ _ (by omega)]; exact w5
    · rw [u2 (by omega), hk _ _ (by omega)]; exact w6
    · rw [u2 (by omega), hk _ _ (by omega)]; exact d3
    · rw [u2 (by omega), hk _ _ (by omega)]; exact d5
    · rw [u2 (by omega), hk _ _ (by omega)]; exact d6
    · rw [u2r (by omega)]; funext k; exact hk _ _ (by omega)
  unfold f_X11_local b_X11_local_0
  rw [v_r8 R, Option.bind_some, v_l8 R hl, Option.bind_some, c l hl]
  by_cases e1 : ow l = -1
  · rw [if_pos e1]
    have eo : owL ow l th = up_1 ow l (nI th) := if_pos e1
    unfold b_X11_local_10
    rw [v_r8 R, Option.bind_some, v_g R, Option.bind_some, w3, v_s8 R hl, Option.bind_some]
    unfold b_X11_local_20
    rw [v_r8 R, Option.bind_some, v_l8 R hl, Option.bind_some, v_g R, Option.bind_some, u2s, u2 (by omega), w3, if_pos rfl]
    refine fin _ (fun r k hk => u2 (by omega)) (fun l' hl' => ?_)
    rw [eo]
    by_cases el : l' = l
    · subst el; rw [u2s, up_same]
    · rw [u2 (by omega), up_ne el]; exact c l' hl'
  · rw [if_neg e1]
    have eo : owL ow l th = ow := if_neg e1
    rw [eo] at ho
    unfold b_X11_local_20
    rw [v_r8 R, Option.bind_some, v_l8 R hl, Option.bind_some, v_g R, Option.bind_some, c l hl, w3, if_pos ho]
    exact fin A (fun _ _ _ => rfl) (fun l' hl' => by rw [eo]; exact c l' hl')
theorem s_cell {c : Nat} {q : Int32} (R : RZ h) (S : RR Z tp n A j0 tc j th hd ne st E AL SL ow lb mb mk dn kd) (hc : c < 6) (hk : ¬ kd c = -1) : f_X11_cell 102 (nI c) q (sA h A) = some (sA h A) := by
  unfold f_X11_cell b_X11_cell_0
  rw [v_r7 R, Option.bind_some, ad, Nat.zero_add, v_l7 R (by omega), Option.bind_some, S.2.2.2.2.1 c hc, if_neg hk]
  rfl
theorem s_act {op e : Nat} {ob tl q : Int32} (R : RZ h) (S : RR Z tp n A j0 tc j th hd ne st E AL SL ow lb mb mk dn kd) (hA : AL.length < 8) : ∃ A', f_X11_action 102 q (nI op) ob tl (sA h A) = some (nI AL.length, sA h A') ∧ RR Z tp n A' j0 tc j th hd ne st E (AL ++ [(th, op, ob, tl, e)]) SL ow lb mb mk dn kd ∧ A' 102 = A 102 := by
  obtain ⟨a, ⟨w1, w2, w3, w4, w5, w6⟩, c, ⟨d1, d2, d3, d4, d5, d6, d7⟩, e', f, g, i, k, l1, l2, l3, l4, l5, l6, l7⟩ := S
  have ek : ∀ r k, ¬ (r = 107 ∧ (k = 6 ∨ (18 + 4 * AL.length ≤ k ∧ k < 22 + 4 * AL.length))) → up_2 (up_2 (up_2 (up_2 (up_2 A 107 (18 + 4 * AL.length) (nI th)) 107 (18 + 4 * AL.length + 1) (nI op)) 107 (18 + 4 * AL.length + 2) ob) 107 (18 + 4 * AL.length + 3) tl) 107 6 (nI (AL.length + 1)) r k = A r k := fun r k k1 => by
    rw [u2 (by omega), u2 (by omega), u2 (by omega), u2 (by omega), u2 (by omega)]
  refine ⟨_, ?_, ⟨rt_cg a (fun r k k1 k2 k3 => ek r k (by omega)), ?_, fun l hl => by rw [ek _ _ (by omega)]; exact c l hl, ?_, fun q hq => by rw [ek _ _ (by omega)]; exact e' q hq, fun t ht => by rw [ek _ _ (by omega)]; exact f t ht, fun m hm => ?_, fun x hx => ⟨fun h9 => ir_F (fun q hq => ek _ _ (by omega)) ((i x hx).1 h9), (i x hx).2⟩, ⟨k.1, k.2.1, k.2.2.1, fun q hq => by rw [ek _ _ (by omega)]; exact k.2.2.2 q hq⟩, l1, l2, by rw [ln_a]; omega, l4, l5, l6, l7⟩, ?_⟩
  · unfold f_X11_action b_X11_action_0
    rw [v_r7 R, Option.bind_some, show l_i (sA h A) 107 (6 : Int32) = _ from v_l7 (k := 6) R (by omega), Option.bind_some, d1, if_neg (show ¬ nI AL.length = (8 : Int32) from fun y => absurd ((nI_eq (a := AL.length) (b := 8) (by omega) (by omega)).mp y) (by omega))]
    unfold b_X11_action_24
    rw [v_r7 R, Option.bind_some, v_g R, Option.bind_some, w3, mu, ad, v_s7 R (by omega), Option.bind_some, da, v_r7 R, Option.bind_some, v_s7 R (by omega), Option.bind_some, da, v_r7 R, Option.bind_some, v_s7 R (by omega), Option.bind_some, da, v_r7 R, Option.bind_some, v_s7 R (by omega), Option.bind_some, v_r7 R, Option.bind_some, show l_i (sA h (up_2 (up_2 (up_2 (up_2 A 107 (18 + 4 * AL.length) (nI th)) 107 (18 + 4 * AL.length + 1) (nI op)) 107 (18 + 4 * AL.length + 2) ob) 107 (18 + 4 * AL.length + 3) tl)) 107 (6 : Int32) = _ from v_l7 (k := 6) R (by omega), Option.bind_some, u2 (by omega), u2 (by omega), u2 (by omega), u2 (by omega), d1, da, show s_i (sA h (up_2 (up_2 (up_2 (up_2 A 107 (18 + 4 * AL.length) (nI th)) 107 (18 + 4 * AL.length + 1) (nI op)) 107 (18 + 4 * AL.length + 2) ob) 107 (18 + 4 * AL.length + 3) tl)) 107 (6 : Int32) (nI (AL.length + 1)) = _ from v_s7 (k := 6) R (by omega), Option.bind_some]
  · rw [ek _ 11 (by omega), ek _ 15 (by omega), ek _ 17 (by omega), ek _ 18 (by omega), ek _ 19 (by omega), ek _ 20 (by omega)]
    exact ⟨w1, w2, w3, w4, w5, w6⟩
  · rw [u2s, ln_a, ek _ 7 (by omega), ek _ 8 (by omega), ek _ 9 (by omega), ek _ 10 (by omega), ek _ 11 (by omega), ek _ 12 (by omega)]
    exact ⟨rfl, d2, d3, d4, d5, d6, d7⟩
  · rw [ln_a] at hm
    by_cases em : m = AL.length
    · subst em
      rw [gd_e]
      refine ⟨?_, ?_, ?_, ?_⟩
      · rw [u2 (by omega), u2 (by omega), u2 (by omega), u2 (by omega), u2s]
      · rw [u2 (by omega), u2 (by omega), u2 (by omega), u2s]
      · rw [u2 (by omega), u2 (by omega), u2s]
      · rw [u2 (by omega), u2s]
    · rw [gd_l (by omega), ek _ _ (by omega), ek _ _ (by omega), ek _ _ (by omega), ek _ _ (by omega)]
      exact g m (by omega)
  · funext k; exact ek _ _ (by omega)
end
