/-! ===== the tokens of the entries; the two readers together ===== -/
def rnx (bs dg : Int32) : List Nat := if bs = -1 then [600 + ix dg] else if dg = -1 then [400 + ix bs] else [400 + ix bs, 704, 600 + ix dg]
def rne (x : Ent) : List Nat :=
  if en_op x = 0 then [400 + ix (en_tl x), 701, 300 + ix (en_ob x), 700] else if en_op x = 1 then [300 + ix (en_ob x), 701] ++ rnx (en_bs x) (en_dg x) ++ [700]
  else if en_op x = 2 then [400 + ix (en_tl x), 701, 400 + ix (en_bs x), 703, 300 + ix (en_ob x), 700] else if en_op x = 3 then [204, 500 + ix (en_ob x), 700] else if en_op x = 4 then [205, 500 + ix (en_ob x), 700]
  else if en_op x = 5 then [206, 700] else if en_op x = 6 then [400 + ix (en_tl x), 701] ++ rnx (en_bs x) (en_dg x) ++ [700] else if en_op x = 7 then [207, 400 + ix (en_tl x), 702, 600 + ix (en_dg x), 705]
  else if en_op x = 8 then [706, 208, 705] else [706]
def rnf (SL : List Nat) (E : List Ent) (e : Nat) : List Nat := (if e ∈ SL then [203, 705] else []) ++ (if e < E.length then rne (E.getD e dE) else [])
def RN (SL : List Nat) (E : List Ent) : List Nat := (List.range (E.length + 1)).flatMap (rnf SL E)
def TLn (tp : Nat → Nat) (n j0 tc : Nat) : List Nat := (List.range tc).map (fun i => (tk tp n (j0 + i)).1)
theorem tln_s {tp : Nat → Nat} {n j0 tc : Nat} : TLn tp n j0 (tc + 1) = TLn tp n j0 tc ++ [(tk tp n (j0 + tc)).1] := by
  unfold TLn
  rw [List.range_succ, List.map_append]
  rfl
theorem fm_c {f g : Nat → List Nat} : ∀ L : List Nat, (∀ e, e ∈ L → f e = g e) → L.flatMap f = L.flatMap g
  | [], _ => rfl
  | x :: L, h => by
    rw [List.flatMap_cons, List.flatMap_cons, h x (List.mem_cons_self ..), fm_c L (fun e he => h e (List.mem_cons_of_mem _ he))]
theorem rn_a {SL : List Nat} {E : List Ent} {x : Ent} (h : ∀ s, s ∈ SL → s ≤ E.length) : RN SL (E ++ [x]) = RN SL E ++ rne x := by
  unfold RN
  rw [ln_a, List.range_succ, List.range_succ, List.flatMap_append, List.flatMap_append, List.flatMap_append]
  have e1 : (List.range E.length).flatMap (rnf SL (E ++ [x])) = (List.range E.length).flatMap (rnf SL E) := by
    refine fm_c _ (fun e he => ?_)
    have he := List.mem_range.mp he
    unfold rnf
    rw [ln_a, if_pos (show e < E.length + 1 by omega), if_pos he, gd_l he]
  have e2 : [E.length].flatMap (rnf SL (E ++ [x])) = [E.length].flatMap (rnf SL E) ++ rne x := by
    rw [List.flatMap_cons, List.flatMap_cons, List.flatMap_nil, List.append_nil, List.flatMap_nil, List.append_nil]
    unfold rnf
    rw [ln_a, if_pos (Nat.lt_succ_self _), gd_e, if_neg (Nat.lt_irrefl _), List.append_nil]
  have e3 : [E.length + 1].flatMap (rnf SL (E ++ [x])) = [] := by
    rw [List.flatMap_cons, List.flatMap_nil, List.append_nil]
    unfold rnf
    rw [ln_a, if_neg (Nat.lt_irrefl _), if_neg (fun m => absurd (h _ m) (by omega))]
    rfl
  rw [e1, e2, e3, List.append_nil, List.append_assoc]
theorem rn_o {SL : List Nat} {E : List Ent} (h : ¬ E.length ∈ SL) : RN (SL ++ [E.length]) E = RN SL E ++ [203, 705] := by
  unfold RN
  rw [List.range_succ, List.flatMap_append, List.flatMap_append]
  have e1 : (List.range E.length).flatMap (rnf (SL ++ [E.length]) E) = (List.range E.length).flatMap (rnf SL E) := by
    refine fm_c _ (fun e he => ?_)
    have he := List.mem_range.mp he
    unfold rnf
    have : e ∈ SL ++ [E.length] ↔ e ∈ SL := by
      rw [List.mem_append, List.mem_singleton]
      exact ⟨fun z => z.elim id (fun y => absurd y (by omega)), Or.inl⟩
    by_cases c : e ∈ SL
    · rw [if_pos c, if_pos (this.mpr c)]
    · rw [if_neg c, if_neg (fun z => c (this.mp z))]
  have e2 : [E.length].flatMap (rnf (SL ++ [E.length]) E) = [E.length].flatMap (rnf SL E) ++ [203, 705] := by
    rw [List.flatMap_cons, List.flatMap_cons, List.flatMap_nil, List.append_nil, List.flatMap_nil, List.append_nil]
    unfold rnf
    rw [if_neg (Nat.lt_irrefl _), List.append_nil, List.append_nil, if_neg h, if_pos (List.mem_append.mpr (Or.inr (List.mem_singleton.mpr rfl)))]
    rfl
  rw [e1, e2, List.append_assoc]
theorem rn_set {SL : List Nat} {E : List Ent} {i : Nat} {p q : Option Nat} (hi : i < E.length) : RN SL (E.set i (sJ (E.getD i dE) p q)) = RN SL E := by
  unfold RN
  rw [List.length_set]
  refine fm_c _ (fun e _ => ?_)
  unfold rnf
  rw [List.length_set, set_g hi]
  by_cases c : e = i
  · rw [if_pos c, c]; rfl
  · rw [if_neg c]
/-- how deep the entries are nested -/
def dso (o : Option Nat) (op : Nat) : Option Nat := o.bind fun k => if op = 7 then some (k + 1) else if op = 8 then (if k = 0 then none else some k) else if op = 9 then (if k = 0 then none else some (k - 1)) else if op = 10 then (if k = 0 then some 0 else none) else some k
/-- the fields that an entry does not use -/
def fzb (x : Ent) : Bool := decide ((en_op x = 0 → en_bs x = -1 ∧ en_dg x = -1) ∧ (en_op x = 1 → en_tl x = -1) ∧ (en_op x = 2 → en_dg x = -1) ∧ (en_op x = 3 ∨ en_op x = 4 → en_tl x = -1 ∧ en_bs x = -1 ∧ en_dg x = -1) ∧ (en_op x = 5 ∨ 8 ≤ en_op x → en_tl x = -1 ∧ en_bs x = -1 ∧ en_dg x = -1 ∧ en_ob x = -1) ∧ (en_op x = 6 → en_ob x = -1) ∧ (en_op x = 7 → en_bs x = -1 ∧ en_ob x = -1))
def nd2 (o : Option Nat) (c : Nat × Bool) : Option Nat := if c.2 = true then dso o c.1 else none
def nst (E : List Ent) : Option Nat := (E.map (fun x => (en_op x, fzb x))).foldl nd2 (some 0)
theorem nst_a {E : List Ent} {x : Ent} : nst (E ++ [x]) = nd2 (nst E) (en_op x, fzb x) := by
  unfold nst
  rw [List.map_append, List.foldl_append]
  rfl
theorem nst_af {E : List Ent} {x : Ent} (hz : fzb x = true) : nst (E ++ [x]) = dso (nst E) (en_op x) := by
  rw [nst_a]
  exact if_pos hz
theorem nst_set {E : List Ent} {i : Nat} {p q : Option Nat} (hi : i < E.length) : nst (E.set i (sJ (E.getD i dE) p q)) = nst E := by
  unfold nst
  congr 1
  apply List.ext_getElem (by rw [List.length_map, List.length_map, List.length_set])
  intro k h1 h2
  rw [List.getElem_map, List.getElem_map, List.getElem_set]
  by_cases c : i = k
  · subst c
    rw [if_pos rfl]
    show (en_op (E.getD i dE), fzb (E.getD i dE)) = (en_op E[i], fzb E[i])
    rw [List.getD_eq_getElem?_getD, List.getElem?_eq_getElem hi]
    rfl
  · rw [if_neg c]
theorem dso_6 {k op : Nat} (h : op ≤ 6) : dso (some k) op = some k := by
  show (if op = 7 then some (k + 1) else if op = 8 then (if k = 0 then none else some k) else if op = 9 then (if k = 0 then none else some (k - 1)) else if op = 10 then (if k = 0 then some 0 else none) else some k) = some k
  rw [if_neg (by omega), if_neg (by omega), if_neg (by omega), if_neg (by omega)]
def npE (x : Ent) : Prop := en_op x = 7 ∨ en_op x = 8 → en_jp x ≠ none
/-- before a statement -/
def JP (Z Z2 : Nat → Nat → Int32) (B : Nat) (tp : Nat → Nat) (n cnt j0 th ne : Nat) (SL : List Nat) (kd : Nat → Int32) (A A2 : Nat → Nat → Int32) (tc j hd st : Nat) (E : List Ent) (AL : List Act) (ow : Nat → Int32) (lb mb mk dn : Int32) : Prop :=
  CS Z tp n cnt B A j th hd ne st E AL SL ow lb mb mk dn kd ∧ RR Z2 tp n A2 j0 tc j th hd ne st E AL SL ow lb mb mk dn kd ∧ lbI ow lb ∧ LV th E AL SL ow mk dn kd ∧
  (SL.length = th + 1 ∧ E.length + 1 ≤ 3 * st + SL.length ∧ tc ≤ 9 * st + 3 * SL.length) ∧ (ne = 0 → ∀ x, x ∈ E → npE x) ∧ (∀ s, s ∈ SL → s ≤ E.length) ∧ nst E = some ne
/-- what stays between before and after -/
def JE (ne tc st : Nat) (E : List Ent) (AL : List Act) (dn : Int32) (tc' st' : Nat) (E' : List Ent) (AL' : List Act) (dn' : Int32) : Prop :=
  (st ≤ st' ∧ E'.length + 3 * st ≤ E.length + 3 * st' ∧ tc' + 9 * st ≤ tc + 9 * st') ∧ (∃ X, E' = E ++ X ∧ ∀ x, x ∈ X → npE x) ∧ (∃ Y, AL' = AL ++ Y) ∧ (0 < ne → dn' = dn)
/-- both have gone on -/
def JG (Z Z2 : Nat → Nat → Int32) (B : Nat) (h g : AH) (tp : Nat → Nat) (n cnt j0 th ne : Nat) (SL : List Nat) (kd : Nat → Int32) (tc st : Nat) (E : List Ent) (AL : List Act) (dn : Int32) (sf : List Nat) (hq : Nat → Prop) (rC rR : Option (Int32 × AH)) : Prop :=
  ∃ A' A2' tc' j' hd' st' E' AL' ow' lb' mb' mk' dn', rC = some (1, sA h A') ∧ rR = some (1, sA g A2') ∧ JP Z Z2 B tp n cnt j0 th ne SL kd A' A2' tc' j' hd' st' E' AL' ow' lb' mb' mk' dn' ∧ TLn tp n j0 tc' = RN SL E' ++ sf ∧ (hq hd' ∧ (sf = [] → st < st')) ∧ JE ne tc st E AL dn tc' st' E' AL' dn'
/-- both have found the same fault -/
def JF (Z Z2 : Nat → Nat → Int32) (B : Nat) (h g : AH) (tp : Nat → Nat) (n : Nat) (rC rR : Option (Int32 × AH)) : Prop :=
  ∃ K p A' A2' v, rC = some (0, sA h A') ∧ CF Z B A' K p ∧ rR = some (v, sA g A2') ∧ (v = 0 ∨ v = 1) ∧ FT Z2 tp n K p A2'
section
variable {Z Z2 : Nat → Nat → Int32} {tp : Nat → Nat} {n cnt B : Nat} {h g : AH} {A A2 A' : Nat → Nat → Int32} {j0 tc j th hd ne st b p : Nat} {E : List Ent} {AL : List Act} {SL : List Nat} {ow : Nat → Int32} {lb mb mk dn : Int32} {kd : Nat → Int32} {rc : Nat → Int32 → AH → Option (Int32 × AH)}
/-- the reference counts its statement -/
theorem s_cnt {q : Int32} (R : RZ g) (S : RR Z2 tp n A2 j0 tc j th hd ne st E AL SL ow lb mb mk dn kd) (hs : st < 20) : ∃ A', b_X11_statement_79 rc 102 q (sA g A2) = (if (tk tp n j).1 / 100 = 4 then b_X11_statement_116 rc 102 q (sA g A') else b_X11_statement_122 rc 102 q (sA g A')) ∧ RR Z2 tp n A' j0 tc j th hd ne (st + 1) E AL SL ow lb mb mk dn kd ∧ A' 102 = A2 102 := by
  have C := cd_3 (tk_code (tp := tp) (n := n) (j := j))
  have S' := S
  obtain ⟨a, ⟨w1, w2, w3, w4, w5, w6⟩, c, ⟨d1, d2, d3, d4, d5, d6, d7⟩, e', f, g', i, k, l1, l2, l3, l4, l5, l6, l7⟩ := S
  have S2 : RR Z2 tp n (up_2 A2 107 8 (nI (st + 1))) j0 tc j th hd ne (st + 1) E AL SL ow lb mb mk dn kd := by
    refine rr_fld S' (rt_cg a (fun r k k1 k2 k3 => u2 (by omega))) (fun r k k1 k2 k3 => u2 (by omega)) (fun l hl => by rw [u2 (by omega)]; exact c l hl) ?_ ?_ ?_ u2s ?_ ?_ ?_ l6 l7 (by omega)
    · rw [u2 (by omega)]; exact w4
    · rw [u2 (by omega)]; exact w5
    · rw [u2 (by omega)]; exact w6
    · rw [u2 (by omega)]; exact d4
    · rw [u2 (by omega)]; exact d5
    · rw [u2 (by omega)]; exact d6
  refine ⟨_, ?_, S2, by rw [u2r (by omega)]⟩
  unfold b_X11_statement_79
  rw [v_r7 R, Option.bind_some, show l_i (sA g A2) 107 (8 : Int32) = _ from v_l7 (k := 8) R (by omega), Option.bind_some, d3, if_neg (show ¬ nI st = (20 : Int32) from fun y => absurd ((nI_eq (a := st) (b := 20) (by omega) (by omega)).mp y) (by omega))]
  unfold b_X11_statement_97
  rw [v_r7 R, Option.bind_some, show l_i (sA g A2) 107 (8 : Int32) = _ from v_l7 (k := 8) R (by omega), Option.bind_some, d3, da, show s_i (sA g A2) 107 (8 : Int32) (nI (st + 1)) = _ from v_s7 (k := 8) R (by omega), Option.bind_some, v_v R, Option.bind_some, w_kind R S2.1, Option.bind_some]
  by_cases c4 : (tk tp n j).1 / 100 = 4
  · rw [if_pos (kf_p (v := 4) c4 rfl), if_pos c4]
  · rw [if_neg (kf_n (v := 4) c4 rfl (by omega) (by omega)), if_neg c4]
theorem w_cnt {s : Nat} (R : RZ g) (W : WB Z2 tp n 0 p A2 j b) (hs : A2 107 8 = nI s) (h20 : s ≤ 20) (hp : p ≤ 1000) : ∃ A', b_X11_statement_79 rc 102 (nI p) (sA g A2) = (if (tk tp n j).1 / 100 = 4 then b_X11_statement_116 rc 102 (nI p) (sA g A') else b_X11_statement_122 rc 102 (nI p) (sA g A')) ∧ WB Z2 tp n (if s = 20 then 4 else 0) p A' j b ∧ ∀ r k, ¬ (r = 102 ∧ (k = 11 ∨ k = 12)) → ¬ (r = 107 ∧ k = 8) → A' r k = A2 r k := by
  have C := cd_3 (tk_code (tp := tp) (n := n) (j := j))
  have fin : ∀ K (A1 : Nat → Nat → Int32), WB Z2 tp n K p A1 j b → (∀ r k, ¬ (r = 102 ∧ (k = 11 ∨ k = 12)) → A1 r k = A2 r k) → ∃ A', b_X11_statement_97 rc 102 (nI p) (sA g A1) = (if (tk tp n j).1 / 100 = 4 then b_X11_statement_116 rc 102 (nI p) (sA g A') else b_X11_statement_122 rc 102 (nI p) (sA g A')) ∧ WB Z2 tp n K p A' j b ∧ ∀ r k, ¬ (r = 102 ∧ (k = 11 ∨ k = 12)) → ¬ (r = 107 ∧ k = 8) → A' r k = A2 r k := fun K A1 W1 hk => by
    have W2 : WB Z2 tp n K p (up_2 A1 107 8 (nI (s + 1))) j b := wb_cg W1 (fun r k k1 k2 k3 => u2 (by omega))
    refine ⟨_, ?_, W2, fun r k k1 k2 => by rw [u2 (by omega)]; exact hk r k k1⟩
    unfold b_X11_statement_97
    rw [v_r7 R, Option.bind_some, show l_i (sA g A1) 107 (8 : Int32) = _ from v_l7 (k := 8) R (by omega), Option.bind_some, hk _ _ (by omega), hs, da, show s_i (sA g A1) 107 (8 : Int32) (nI (s + 1)) = _ from v_s7 (k := 8) R (by omega), Option.bind_some, v_v R, Option.bind_some, w_kind R W2.1, Option.bind_some]
    by_cases c4 : (tk tp n j).1 / 100 = 4
    · rw [if_pos (kf_p (v := 4) c4 rfl), if_pos c4]
    · rw [if_neg (kf_n (v := 4) c4 rfl (by omega) (by omega)), if_neg c4]
  unfold b_X11_statement_79
  rw [v_r7 R, Option.bind_some, show l_i (sA g A2) 107 (8 : Int32) = _ from v_l7 (k := 8) R (by omega), Option.bind_some, hs]
  by_cases c : s = 20
  · rw [c, if_pos rfl, if_pos (show nI 20 = (20 : Int32) from rfl)]
    unfold b_X11_statement_91
    obtain ⟨A1, x1, x2, x3⟩ := w_bg (k := 4) (q := p) R W (Or.inl rfl) hp (by omega) (by omega)
    rw [v_v R, Option.bind_some, show f_X11_bad 102 (4 : Int32) (nI p) (sA g A2) = _ from x1, Option.bind_some]
    rw [bqq_e] at x2
    exact fin _ A1 x2 x3
  · rw [if_neg c, if_neg (show ¬ nI s = (20 : Int32) from fun y => c ((nI_eq (a := s) (b := 20) (by omega) (by omega)).mp y))]
    exact fin 0 A2 W (fun _ _ _ => rfl)
end
