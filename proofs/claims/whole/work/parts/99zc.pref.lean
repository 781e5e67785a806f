/-! ===== the reference's reader: its state, its steps ===== -/
def rxl (E : List Ent) (e : Nat) : Nat := ((E.take e).filter (fun x => decide (en_op x ≠ 9))).length
/-- instruction k is entry x -/
def IR (E : List Ent) (F : Nat → Int32) (k : Nat) (x : Ent) : Prop :=
  F (60 + 5 * k + 0) = (if en_op x = 10 then 9 else nI (en_op x)) ∧
  (en_op x = 0 ∨ en_op x = 2 → F (60 + 5 * k + 1) = en_nu x ∧ F (60 + 5 * k + 2) = en_ob x ∧ F (60 + 5 * k + 3) = en_tl x) ∧ (en_op x = 2 → F (60 + 5 * k + 4) = en_bs x) ∧
  (en_op x = 1 → F (60 + 5 * k + 1) = en_nu x ∧ F (60 + 5 * k + 2) = en_ob x ∧ ∃ b l, b < 2 ∧ l < 5 ∧ F (60 + 5 * k + 3) = nI (2 * l + b) ∧ exR (en_bs x) (en_dg x) b l (F (60 + 5 * k + 4))) ∧
  (en_op x = 3 ∨ en_op x = 4 → F (60 + 5 * k + 1) = en_nu x ∧ F (60 + 5 * k + 2) = en_ob x) ∧ (en_op x = 5 → F (60 + 5 * k + 1) = en_nu x) ∧
  (en_op x = 6 → F (60 + 5 * k + 1) = en_tl x ∧ ∃ b l, b < 2 ∧ l < 5 ∧ F (60 + 5 * k + 2) = nI b ∧ F (60 + 5 * k + 3) = nI l ∧ exR (en_bs x) (en_dg x) b l (F (60 + 5 * k + 4))) ∧
  (en_op x = 7 → F (60 + 5 * k + 1) = en_tl x ∧ F (60 + 5 * k + 2) = en_dg x ∧ ∀ y, en_jq x = some y → F (60 + 5 * k + 3) = nI (rxl E y)) ∧
  (en_op x = 8 → ∀ y, en_jq x = some y → F (60 + 5 * k + 1) = nI (rxl E y))
/-- the rest of the heap is as before -/
def FD (Z A : Nat → Nat → Int32) : Prop := ∀ r k, r ≠ 107 → r ≠ 108 → ¬ (r = 102 ∧ (k = 5 ∨ k = 6 ∨ k = 7 ∨ k = 11 ∨ k = 12 ∨ k = 15 ∨ (17 ≤ k ∧ k ≤ 23))) → A r k = Z r k
def RT (Z : Nat → Nat → Int32) (tp : Nat → Nat) (n : Nat) (A : Nat → Nat → Int32) (j : Nat) : Prop := (A 102 3 = nI n ∧ A 102 5 = nI (tpos tp n (j + 1)) ∧ A 102 6 = nI (tk tp n j).1 ∧ A 102 7 = nI (tk tp n j).2.1) ∧ n ≤ 1000 ∧ (∀ k, k < n → tp k < 256) ∧ (∀ k, k < n → A 103 k = nI (tp k)) ∧ FD Z A ∧ ∃ l, l < 5 ∧ A 102 22 = nI l
def RR (Z : Nat → Nat → Int32) (tp : Nat → Nat) (n : Nat) (A : Nat → Nat → Int32) (j0 tc j th hd ne st : Nat) (E : List Ent) (AL : List Act) (SL : List Nat) (ow : Nat → Int32) (lb mb mk dn : Int32) (kd : Nat → Int32) : Prop :=
  RT Z tp n A j ∧ (A 102 11 = 0 ∧ A 102 15 = nI (rxl E E.length) ∧ A 102 17 = nI th ∧ A 102 18 = nI hd ∧ A 102 19 = nI ne ∧ A 102 20 = if dn ≠ -1 ∧ mk = nI th then 1 else 0) ∧ (∀ l, l < 5 → A 108 l = ow l) ∧
  (A 107 6 = nI AL.length ∧ A 107 7 = nI SL.length ∧ A 107 8 = nI st ∧ A 107 9 = lb ∧ (A 107 10 = mb ∧ mbI mb) ∧ A 107 11 = mk ∧ A 107 12 = nI tc) ∧ (∀ c, c < 6 → A 107 c = kd c) ∧
  (∀ t, t < SL.length → A 107 (13 + t) = nI (rxl E (SL.getD t 0)) ∧ SL.getD t 0 ≤ E.length) ∧
  (∀ m, m < AL.length → A 107 (18 + 4 * m) = nI (AL.getD m dA).1 ∧ A 107 (18 + 4 * m + 1) = nI (AL.getD m dA).2.1 ∧ A 107 (18 + 4 * m + 2) = (AL.getD m dA).2.2.1 ∧ A 107 (18 + 4 * m + 3) = (AL.getD m dA).2.2.2.1) ∧
  (∀ e, e < E.length → (en_op (E.getD e dE) ≠ 9 → IR E (A 107) (rxl E e) (E.getD e dE)) ∧ ∀ y, en_jq (E.getD e dE) = some y → y ≤ E.length) ∧
  ((SL.length = 0 → tc = 0) ∧ (0 < SL.length → j = j0 + tc) ∧ tc ≤ 480 ∧ ∀ i, i < tc → A 107 (400 + i) = nI (tk tp n (j0 + i)).1) ∧
  (E.length ≤ 64 ∧ SL.length ≤ 4 ∧ AL.length ≤ 8 ∧ st ≤ 20 ∧ th < 4 ∧ hd < 4 ∧ ne ≤ 4)
theorem rxl_le {E : List Ent} {e : Nat} : rxl E e ≤ e := by
  unfold rxl
  exact Nat.le_trans (List.length_filter_le _ _) (by rw [List.length_take]; exact Nat.min_le_left _ _)
theorem rxl_a {E : List Ent} {x : Ent} {e : Nat} (h : e ≤ E.length) : rxl (E ++ [x]) e = rxl E e := by
  unfold rxl
  rw [List.take_append_of_le_length h]
theorem rxl_s {E : List Ent} {x : Ent} : rxl (E ++ [x]) (E.length + 1) = rxl E E.length + if en_op x = 9 then 0 else 1 := by
  unfold rxl
  rw [List.take_of_length_le (by rw [ln_a]; exact Nat.le_refl _), List.take_of_length_le (Nat.le_refl _), List.filter_append, List.length_append]
  congr 1
  by_cases c : en_op x = 9
  · rw [if_pos c]; simp [c]
  · rw [if_neg c]; simp [c]
theorem rxl_mono {E : List Ent} {e e' : Nat} (h : e ≤ e') : rxl E e ≤ rxl E e' := by
  unfold rxl
  have : E.take e = (E.take e').take e := by rw [List.take_take, Nat.min_eq_left h]
  rw [this]
  exact (List.Sublist.filter _ (List.take_sublist _ _)).length_le
/-- an entry that is no close takes its instruction -/
theorem rxl_lt {E : List Ent} {e : Nat} (he : e < E.length) (h9 : en_op (E.getD e dE) ≠ 9) : rxl E e + 1 = rxl E (e + 1) := by
  unfold rxl
  have e1 : E.getD e dE = E[e] := by rw [List.getD_eq_getElem?_getD, List.getElem?_eq_getElem he]; rfl
  rw [List.take_succ_eq_append_getElem he, List.filter_append, List.length_append]
  rw [e1] at h9
  simp [h9]
theorem ir_E {E E' : List Ent} {F : Nat → Int32} {k : Nat} {x : Ent} (hj : ∀ y, en_jq x = some y → rxl E' y = rxl E y) (I : IR E F k x) : IR E' F k x := by
  obtain ⟨a, b, c, d, e, f, g, i, l⟩ := I
  exact ⟨a, b, c, d, e, f, g, fun h => ⟨(i h).1, (i h).2.1, fun y hy => by rw [hj y hy]; exact (i h).2.2 y hy⟩, fun h y hy => by rw [hj y hy]; exact l h y hy⟩
theorem ir_F {E : List Ent} {F F' : Nat → Int32} {k : Nat} {x : Ent} (hf : ∀ i, i < 5 → F' (60 + 5 * k + i) = F (60 + 5 * k + i)) (I : IR E F k x) : IR E F' k x := by
  unfold IR at I ⊢
  rw [hf 0 (by omega), hf 1 (by omega), hf 2 (by omega), hf 3 (by omega), hf 4 (by omega)]
  exact I
section
variable {Z : Nat → Nat → Int32} {tp : Nat → Nat} {n : Nat} {h : AH} {A A' : Nat → Nat → Int32} {j0 tc j th hd ne st : Nat} {E : List Ent} {AL : List Act} {SL : List Nat} {ow : Nat → Int32} {lb mb mk dn : Int32} {kd : Nat → Int32}
theorem sA_rz (R : RZ h) : RZ (sA h A) := R
theorem v_g {k : Nat} (R : RZ h) : g_i (sA h A) 102 11 k = some (A 102 k) := rz_g (sA_rz R)
theorem v_p {k : Nat} {v : Int32} (R : RZ h) : p_i (sA h A) 102 11 k v = some (sA h (up_2 A 102 k v)) := rz_p (sA_rz R)
theorem v_v (R : RZ h) : ok_v (sA h A) 102 11 = some () := rz_v (sA_rz R)
theorem v_r7 (R : RZ h) : g_r (sA h A) 102 11 10 = some 107 := rz_r (f := 10) (r := 107) (l := 900) (sA_rz R) (by decide)
theorem v_l7 {k : Nat} (R : RZ h) (hk : k < 900) : l_i (sA h A) 107 (nI k) = some (A 107 k) := rz_l (f := 10) (r := 107) (l := 900) (sA_rz R) (by decide) hk (by omega)
theorem v_s7 {k : Nat} {v : Int32} (R : RZ h) (hk : k < 900) : s_i (sA h A) 107 (nI k) v = some (sA h (up_2 A 107 k v)) := rz_s (f := 10) (r := 107) (l := 900) (sA_rz R) (by decide) hk (by omega)
theorem v_r8 (R : RZ h) : g_r (sA h A) 102 11 16 = some 108 := rz_r (f := 16) (r := 108) (l := 5) (sA_rz R) (by decide)
theorem v_l8 {k : Nat} (R : RZ h) (hk : k < 5) : l_i (sA h A) 108 (nI k) = some (A 108 k) := rz_l (f := 16) (r := 108) (l := 5) (sA_rz R) (by decide) hk (by omega)
theorem v_s8 {k : Nat} {v : Int32} (R : RZ h) (hk : k < 5) : s_i (sA h A) 108 (nI k) v = some (sA h (up_2 A 108 k v)) := rz_s (f := 16) (r := 108) (l := 5) (sA_rz R) (by decide) hk (by omega)
/-- look0: the next token -/
theorem r_look (R : RZ h) (T : RT Z tp n A j) : ∃ A', f_X11_look0 102 (sA h A) = some (sA h A') ∧ RT Z tp n A' (j + 1) ∧ ∀ r k, ¬ (r = 102 ∧ (k = 5 ∨ k = 6 ∨ k = 7)) → A' r k = A r k := by
  obtain ⟨⟨t3, t5, t6, t7⟩, hn, hb, ht, hz, l, l1, l2⟩ := T
  have tle := tpos_le (tp := tp) (n := n) hn (j + 1)
  obtain ⟨f', x1, x2, x3, x4, x5⟩ := x_look (h := sA h A) (f := A 102) (sA_rz R) ⟨hn, hb, ht⟩ t3 t5 tle
  have e1 : sI (sA h A) 102 (A 102) = sA h A := sI_eta (h := sA h A) (r := 102)
  rw [e1] at x1
  have ek : ∀ r k, ¬ (r = 102 ∧ (k = 5 ∨ k = 6 ∨ k = 7)) → uR A 102 f' r k = A r k := fun r k hk => by
    unfold uR
    by_cases c : r = 102
    · rw [if_pos c, c]; exact x5 k (fun e => hk ⟨c, by omega⟩) (fun e => hk ⟨c, by omega⟩) (fun e => hk ⟨c, by omega⟩)
    · rw [if_neg c]
  refine ⟨uR A 102 f', x1, ⟨⟨by rw [ek _ _ (by omega)]; exact t3, ?_, ?_, ?_⟩, hn, hb, fun k hk => by rw [ek _ _ (by omega)]; exact ht k hk, fun r k k1 k2 k3 => by rw [ek _ _ (by omega)]; exact hz r k k1 k2 k3, l, l1, by rw [ek _ _ (by omega)]; exact l2⟩, ek⟩
  · rw [uR_s]; exact x4
  · rw [uR_s]; exact x2
  · rw [uR_s]; exact x3
/-- RR when only rows 102 (5, 6, 7) and the tokens change -/
theorem rr_tok {tc' j' : Nat} (S : RR Z tp n A j0 tc j th hd ne st E AL SL ow lb mb mk dn kd) (T : RT Z tp n A' j') (hk : ∀ r k, ¬ (r = 102 ∧ (k = 5 ∨ k = 6 ∨ k = 7)) → ¬ (r = 107 ∧ (k = 12 ∨ 400 ≤ k)) → A' r k = A r k) (h12 : A' 107 12 = nI tc') (h1 : SL.length = 0 → tc' = 0) (h2 : 0 < SL.length → j' = j0 + tc') (h3 : tc' ≤ 480) (h4 : ∀ i, i < tc' → A' 107 (400 + i) = nI (tk tp n (j0 + i)).1) : RR Z tp n A' j0 tc' j' th hd ne st E AL SL ow lb mb mk dn kd := by
  obtain ⟨-, ⟨b1, b2, b3, b4, b5, b6⟩, c, ⟨d1, d2, d3, d4, d5, d6, d7⟩, e, f, g, i, -, l⟩ := S
  have hE := l.1
  refine ⟨T, ?_, fun q hq => by rw [hk _ _ (by omega) (by omega)]; exact c q hq, ?_, fun q hq => by rw [hk _ _ (by omega) (by omega)]; exact e q hq, fun t ht => by rw [hk _ _ (by omega) (by have := l.2.1; omega)]; exact f t ht, fun m hm => ?_, fun x hx => ⟨fun h9 => ir_F (fun q hq => hk _ _ (by omega) (by have := rxl_le (E := E) (e := x); omega)) ((i x hx).1 h9), (i x hx).2⟩, ⟨h1, h2, h3, h4⟩, l⟩
  · rw [hk _ 11 (by omega) (by omega), hk _ 15 (by omega) (by omega), hk _ 17 (by omega) (by omega), hk _ 18 (by omega) (by omega), hk _ 19 (by omega) (by omega), hk _ 20 (by omega) (by omega)]
    exact ⟨b1, b2, b3, b4, b5, b6⟩
  · rw [hk _ 6 (by omega) (by omega), hk _ 7 (by omega) (by omega), hk _ 8 (by omega) (by omega), hk _ 9 (by omega) (by omega), hk _ 10 (by omega) (by omega), hk _ 11 (by omega) (by omega)]
    exact ⟨d1, d2, d3, d4, d5, d6, h12⟩
  · have := l.2.2.1
    rw [hk _ _ (by omega) (by omega), hk _ _ (by omega) (by omega), hk _ _ (by omega) (by omega), hk _ _ (by omega) (by omega)]
    exact g m hm
theorem r_next (R : RZ h) (S : RR Z tp n A j0 tc j th hd ne st E AL SL ow lb mb mk dn kd) (h1 : 0 < SL.length) (htc : tc < 480) : ∃ A', f_X11_next 102 (sA h A) = some (sA h A') ∧ RR Z tp n A' j0 (tc + 1) (j + 1) th hd ne st E AL SL ow lb mb mk dn kd ∧ ∀ k, k ≠ 5 → k ≠ 6 → k ≠ 7 → A' 102 k = A 102 k := by
  have d2 := S.2.2.2.1.2.1
  have d7 := S.2.2.2.1.2.2.2.2.2.2
  have lS := S.2.2.2.2.2.2.2.2.2.2.1
  obtain ⟨k1, k2, k3, k4⟩ := S.2.2.2.2.2.2.2.2.1
  have T := S.1
  have ej := k2 h1
  have T2 : RT Z tp n (up_2 (up_2 A 107 (400 + tc) (nI (tk tp n j).1)) 107 12 (nI (tc + 1))) j := by
    obtain ⟨t0, t1, t2, t3, t4, l, l1, l2⟩ := T
    refine ⟨?_, t1, t2, fun k hk => by rw [u2 (by omega), u2 (by omega)]; exact t3 k hk, fun r k k1 k2 k3 => by rw [u2 (by omega), u2 (by omega)]; exact t4 r k k1 k2 k3, l, l1, by rw [u2 (by omega), u2 (by omega)]; exact l2⟩
    rw [u2 (by omega), u2 (by omega), u2 (by omega), u2 (by omega), u2 (by omega), u2 (by omega), u2 (by omega), u2 (by omega)]
    exact t0
  obtain ⟨A', x1, x2, x3⟩ := r_look R T2
  refine ⟨A', ?_, rr_tok S x2 (fun r k c1 c2 => by rw [x3 r k c1, u2 (by omega), u2 (by omega)]) ?_ (fun h0 => by omega) (fun _ => by omega) (by omega) (fun i hi => ?_), fun k k5 k6 k7 => by rw [x3 _ _ (by omega), u2 (by omega), u2 (by omega)]⟩
  · unfold f_X11_next b_X11_next_0
    rw [v_r7 R, Option.bind_some, show l_i (sA h A) 107 (7 : Int32) = _ from v_l7 (k := 7) R (by omega), Option.bind_some, d2, if_neg (show ¬ nI SL.length ≤ (0 : Int32) from nI_nle h1 (by omega))]
    unfold b_X11_next_10
    rw [v_r7 R, Option.bind_some, show l_i (sA h A) 107 (12 : Int32) = _ from v_l7 (k := 12) R (by omega), Option.bind_some, d7, if_neg (show ¬ (480 : Int32) ≤ nI tc from nI_ge (b := 480) htc (by omega))]
    unfold b_X11_next_23
    rw [v_r7 R, Option.bind_some, Option.bind_some, show l_i (sA h A) 107 (12 : Int32) = _ from v_l7 (k := 12) R (by omega), Option.bind_some, d7, v_g R, Option.bind_some, T.1.2.2.1, ad, v_s7 R (by omega), Option.bind_some, v_r7 R, Option.bind_some, show l_i (sA h (up_2 A 107 (400 + tc) (nI (tk tp n j).1))) 107 (12 : Int32) = _ from v_l7 (k := 12) R (by omega), Option.bind_some, u2 (by omega), d7, da, show s_i (sA h (up_2 A 107 (400 + tc) (nI (tk tp n j).1))) 107 (12 : Int32) (nI (tc + 1)) = _ from v_s7 (k := 12) R (by omega), Option.bind_some]
    unfold b_X11_next_54
    rw [v_v R, Option.bind_some, x1, Option.bind_some]
  · rw [x3 _ _ (by omega), u2s]
  · rw [x3 _ _ (by omega), u2 (by omega)]
    by_cases e : i = tc
    · rw [e, u2s, ej]
    · rw [u2 (by omega)]; exact k4 i (by omega)
/-- a fault of the reference -/
def RFt (A : Nat → Nat → Int32) (k p : Nat) : Prop := A 102 11 = nI k ∧ A 102 12 = nI p ∧ 0 < k ∧ k < 8 ∧ p ≤ 1000
theorem r_bad0 {k p : Nat} (R : RZ h) (h0 : A 102 11 = 0) : f_X11_bad 102 (nI k) (nI p) (sA h A) = some (sA h (up_2 (up_2 A 102 11 (nI k)) 102 12 (nI p))) := by
  unfold f_X11_bad b_X11_bad_0
  rw [v_g R, Option.bind_some, h0, if_pos rfl]
  unfold b_X11_bad_32
  rw [v_p R, Option.bind_some, v_p R, Option.bind_some]
/-- a later fault, or one of a greater kind, changes nothing -/
theorem r_bad1 {k p k' p' : Nat} (R : RZ h) (F : RFt A k p) (hp : p < p' ∨ (p = p' ∧ k ≤ k')) (h' : p' ≤ 1000) (hk' : k' < 8) : f_X11_bad 102 (nI k') (nI p') (sA h A) = some (sA h A) := by
  obtain ⟨f1, f2, f3, f4, f5⟩ := F
  unfold f_X11_bad b_X11_bad_0
  rw [v_g R, Option.bind_some, f1, if_neg (nI_ne0 f3 (by omega))]
  unfold b_X11_bad_7
  rw [v_g R, Option.bind_some, f2]
  by_cases c : p < p'
  · rw [if_pos (nI_lt c (by omega))]
    rfl
  · have e : p = p' := by omega
    rw [e, if_neg (by rw [i_lt]; omega)]
    unfold b_X11_bad_15
    rw [v_g R, Option.bind_some, f2, e, if_pos rfl]
    unfold b_X11_bad_23
    rw [v_g R, Option.bind_some, f1, if_neg (nI_nlt (by omega) (by omega))]
    rfl
/-- a fault of a lesser kind at the same place takes its place -/
theorem r_bad2 {k p k' : Nat} (R : RZ h) (F : RFt A k p) (hk : k' < k) (h0 : 0 < k') : ∃ A', f_X11_bad 102 (nI k') (nI p) (sA h A) = some (sA h A') ∧ RFt A' k' p ∧ ∀ r q, ¬ (r = 102 ∧ (q = 11 ∨ q = 12)) → A' r q = A r q := by
  obtain ⟨f1, f2, f3, f4, f5⟩ := F
  refine ⟨up_2 (up_2 A 102 11 (nI k')) 102 12 (nI p), ?_, ⟨by rw [u2 (by omega), u2s], u2s, h0, by omega, f5⟩, fun r q hq => by rw [u2 (by omega), u2 (by omega)]⟩
  unfold f_X11_bad b_X11_bad_0
  rw [v_g R, Option.bind_some, f1, if_neg (nI_ne0 f3 (by omega))]
  unfold b_X11_bad_7
  rw [v_g R, Option.bind_some, f2, if_neg (by rw [i_lt]; omega)]
  unfold b_X11_bad_15
  rw [v_g R, Option.bind_some, f2, if_pos rfl]
  unfold b_X11_bad_23
  rw [v_g R, Option.bind_some, f1, if_pos (nI_lt hk (by omega))]
  unfold b_X11_bad_32
  rw [v_p R, Option.bind_some, v_p R, Option.bind_some]
end
