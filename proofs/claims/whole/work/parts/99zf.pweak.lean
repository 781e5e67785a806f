/-! ===== the reference's reader once it has found a fault ===== -/
def RQ (A : Nat → Nat → Int32) (K p : Nat) : Prop := (K = 0 ∧ A 102 11 = 0) ∨ RFt A K p
def bd (K k : Nat) : Nat := if K = 0 ∨ k < K then k else K
def bqq (K p q k : Nat) : Nat := if p = q then bd K k else K
def WB (Z : Nat → Nat → Int32) (tp : Nat → Nat) (n K p : Nat) (A : Nat → Nat → Int32) (j b : Nat) : Prop := RT Z tp n A j ∧ RQ A K p ∧ (∃ i, A 102 15 = nI i ∧ i ≤ b) ∧ (∃ a, A 107 6 = nI a ∧ a ≤ 8) ∧ (∃ t, A 107 12 = nI t ∧ t ≤ 480)
theorem ok_zv {v : Int32} {h : AH} (hv : v = 0 ∨ v = 1) : ok_z v h = some (v, h) := if_pos hv
theorem d100 {c : Nat} (hc : c < 1000) : dv_i (nI c) (100 : Int32) = some (nI (c / 100)) := by
  show (if (100 : Int32) = 0 then none else some (nI c / 100)) = _
  rw [if_neg (by decide), show (100 : Int32) = nI 100 from rfl, pk_div (by omega) (by omega) (by omega)]
theorem m100 : ∀ c, c < 1000 → rm_i (nI c) (100 : Int32) = some (nI (c % 100)) := by
  intro c hc
  show (if (100 : Int32) = 0 then none else some (nI c - nI c / 100 * 100)) = _
  rw [if_neg (by decide), show (100 : Int32) = nI 100 from rfl, pk_div (by omega) (by omega) (by omega), pk_mul]
  have e : nI c = nI (c % 100) + nI (c / 100 * 100) := by rw [nI_add]; congr 1; omega
  rw [e, Int32.add_sub_cancel]
section
variable {Z : Nat → Nat → Int32} {tp : Nat → Nat} {n : Nat} {h : AH} {A A' : Nat → Nat → Int32} {j K p q b : Nat}
theorem rt_cg (T : RT Z tp n A j) (hk : ∀ r k, ¬ (r = 102 ∧ (k = 11 ∨ k = 12 ∨ k = 15 ∨ (17 ≤ k ∧ k ≤ 23 ∧ k ≠ 22))) → r ≠ 107 → r ≠ 108 → A' r k = A r k) : RT Z tp n A' j := by
  obtain ⟨⟨t3, t5, t6, t7⟩, hn, hb, ht, hz, l, l1, l2⟩ := T
  refine ⟨?_, hn, hb, fun k hk' => by rw [hk _ _ (by omega) (by omega) (by omega)]; exact ht k hk', fun r k k1 k2 k3 => by rw [hk r k (by omega) k1 k2]; exact hz r k k1 k2 k3, l, l1, by rw [hk _ _ (by omega) (by omega) (by omega)]; exact l2⟩
  rw [hk _ 3 (by omega) (by omega) (by omega), hk _ 5 (by omega) (by omega) (by omega), hk _ 6 (by omega) (by omega) (by omega), hk _ 7 (by omega) (by omega) (by omega)]
  exact ⟨t3, t5, t6, t7⟩
theorem wb_cg (W : WB Z tp n K p A j b) (hk : ∀ r k, ¬ (r = 107 ∧ k ≠ 6 ∧ k ≠ 12) → r ≠ 108 → ¬ (r = 102 ∧ (17 ≤ k ∧ k ≤ 23 ∧ k ≠ 22)) → A' r k = A r k) : WB Z tp n K p A' j b := by
  obtain ⟨T, Q, i, a, t⟩ := W
  refine ⟨rt_cg T (fun r k k1 k2 k3 => hk r k (by omega) (by omega) (by omega)), ?_, by rw [hk _ _ (by omega) (by omega) (by omega)]; exact i, by rw [hk _ _ (by omega) (by omega) (by omega)]; exact a, by rw [hk _ _ (by omega) (by omega) (by omega)]; exact t⟩
  unfold RQ RFt at Q ⊢
  rw [hk 102 11 (by omega) (by omega) (by omega), hk 102 12 (by omega) (by omega) (by omega)]
  exact Q
theorem w_kind (R : RZ h) (T : RT Z tp n A j) : f_X11_kindOf 102 (sA h A) = some (nI ((tk tp n j).1 / 100), sA h A) := by
  unfold f_X11_kindOf b_X11_kindOf_0
  rw [v_g R, Option.bind_some, T.1.2.2.1, d100 (cd_3 tk_code).2.2.2.2, Option.bind_some]
theorem w_which (R : RZ h) (T : RT Z tp n A j) : f_X11_which 102 (sA h A) = some (nI ((tk tp n j).1 % 100), sA h A) := by
  unfold f_X11_which b_X11_which_0
  rw [v_g R, Option.bind_some, T.1.2.2.1, m100 _ (cd_3 tk_code).2.2.2.2, Option.bind_some]
theorem w_bg {k : Nat} (R : RZ h) (W : WB Z tp n K p A j b) (hq : p = q ∨ (p < q ∧ 0 < K)) (hq1 : q ≤ 1000) (h0 : 0 < k) (h8 : k < 8) : ∃ A', f_X11_bad 102 (nI k) (nI q) (sA h A) = some (sA h A') ∧ WB Z tp n (bqq K p q k) p A' j b ∧ ∀ r x, ¬ (r = 102 ∧ (x = 11 ∨ x = 12)) → A' r x = A r x := by
  obtain ⟨T, Q, i, a, t⟩ := W
  have mk : ∀ A', RQ A' (bqq K p q k) p → (∀ r x, ¬ (r = 102 ∧ (x = 11 ∨ x = 12)) → A' r x = A r x) → WB Z tp n (bqq K p q k) p A' j b := fun A' Q' hk =>
    ⟨rt_cg T (fun r x k1 k2 k3 => hk r x (by omega)), Q', by rw [hk _ _ (by omega)]; exact i, by rw [hk _ _ (by omega)]; exact a, by rw [hk _ _ (by omega)]; exact t⟩
  obtain ⟨K0, e0⟩ | F := Q
  · have e : p = q := hq.elim id (fun x => absurd x.2 (by omega))
    have eb : bqq K p q k = k := by unfold bqq bd; rw [if_pos e, if_pos (Or.inl K0)]
    have fr : ∀ r x, ¬ (r = 102 ∧ (x = 11 ∨ x = 12)) → up_2 (up_2 A 102 11 (nI k)) 102 12 (nI q) r x = A r x := fun r x hx => by rw [u2 (by omega), u2 (by omega)]
    refine ⟨_, r_bad0 R e0, mk _ ?_ fr, fr⟩
    rw [eb]
    exact Or.inr ⟨by rw [u2 (by omega), u2s], by rw [u2s, e], h0, h8, by omega⟩
  · by_cases c : p = q ∧ k < K
    · have eb : bqq K p q k = k := by unfold bqq bd; rw [if_pos c.1, if_pos (Or.inr c.2)]
      obtain ⟨A', x1, x2, x3⟩ := r_bad2 R F c.2 h0
      have x1' : f_X11_bad 102 (nI k) (nI q) (sA h A) = some (sA h A') := by rw [← c.1]; exact x1
      exact ⟨A', x1', mk A' (by rw [eb]; exact Or.inr x2) x3, x3⟩
    · have eb : bqq K p q k = K := by
        unfold bqq bd
        by_cases e : p = q
        · rw [if_pos e, if_neg (fun x => x.elim (fun y => absurd F.2.2.1 (by omega)) (fun y => c ⟨e, y⟩))]
        · rw [if_neg e]
      have := r_bad1 (k' := k) (p' := q) R F (by omega) hq1 h8
      exact ⟨A, this, mk A (by rw [eb]; exact Or.inr F) (fun _ _ _ => rfl), fun _ _ _ => rfl⟩
theorem w_next (R : RZ h) (W : WB Z tp n K p A j b) : ∃ A', f_X11_next 102 (sA h A) = some (sA h A') ∧ WB Z tp n K p A' (j + 1) b ∧ ∀ r k, ¬ (r = 102 ∧ (k = 5 ∨ k = 6 ∨ k = 7)) → ¬ (r = 107 ∧ (k = 12 ∨ 400 ≤ k)) → A' r k = A r k := by
  obtain ⟨T, Q, i, a, t, t1, t2⟩ := W
  have fin : ∀ A1 : Nat → Nat → Int32, (∀ r k, ¬ (r = 107 ∧ (k = 12 ∨ 400 ≤ k)) → A1 r k = A r k) → (∃ t, A1 107 12 = nI t ∧ t ≤ 480) → ∃ A', b_X11_next_54 102 (sA h A1) = some (sA h A') ∧ WB Z tp n K p A' (j + 1) b ∧ ∀ r k, ¬ (r = 102 ∧ (k = 5 ∨ k = 6 ∨ k = 7)) → ¬ (r = 107 ∧ (k = 12 ∨ 400 ≤ k)) → A' r k = A r k := fun A1 hk ht => by
    obtain ⟨A', x1, x2, x3⟩ := r_look R (rt_cg (A' := A1) T (fun r k k1 k2 k3 => hk r k (by omega)))
    refine ⟨A', ?_, ⟨x2, ?_, ?_, ?_, ?_⟩, fun r k k1 k2 => by rw [x3 r k k1]; exact hk r k k2⟩
    · unfold b_X11_next_54
      rw [v_v R, Option.bind_some, x1, Option.bind_some]
    · unfold RQ RFt at Q ⊢
      rw [x3 102 11 (by omega), x3 102 12 (by omega), hk 102 11 (by omega), hk 102 12 (by omega)]
      exact Q
    · rw [x3 _ _ (by omega), hk _ _ (by omega)]; exact i
    · rw [x3 _ _ (by omega), hk _ _ (by omega)]; exact a
    · rw [x3 _ _ (by omega)]; exact ht
  unfold f_X11_next b_X11_next_0
  rw [v_r7 R, Option.bind_some, show l_i (sA h A) 107 (7 : Int32) = _ from v_l7 (k := 7) R (by omega), Option.bind_some]
  split
  · exact fin A (fun _ _ _ => rfl) ⟨t, t1, t2⟩
  · unfold b_X11_next_10
    rw [v_r7 R, Option.bind_some, show l_i (sA h A) 107 (12 : Int32) = _ from v_l7 (k := 12) R (by omega), Option.bind_some, t1]
    by_cases c : t < 480
    · rw [if_neg (show ¬ (480 : Int32) ≤ nI t from nI_ge (b := 480) c (by omega))]
      unfold b_X11_next_23
      rw [v_r7 R, Option.bind_some, Option.bind_some, show l_i (sA h A) 107 (12 : Int32) = _ from v_l7 (k := 12) R (by omega), Option.bind_some, t1, v_g R, Option.bind_some, ad, v_s7 R (by omega), Option.bind_some, v_r7 R, Option.bind_some, show l_i (sA h (up_2 A 107 (400 + t) (A 102 6))) 107 (12 : Int32) = _ from v_l7 (k := 12) R (by omega), Option.bind_some, u2 (by omega), t1, da, show s_i (sA h (up_2 A 107 (400 + t) (A 102 6))) 107 (12 : Int32) (nI (t + 1)) = _ from v_s7 (k := 12) R (by omega), Option.bind_some]
      exact fin _ (fun r k hk => by rw [u2 (by omega), u2 (by omega)]) ⟨t + 1, u2s, by omega⟩
    · rw [if_pos (show (480 : Int32) ≤ nI t from nI_le (a := 480) (by omega) (by omega))]
      exact fin A (fun _ _ _ => rfl) ⟨t, t1, t2⟩
theorem w_need {c : Nat} (R : RZ h) (W : WB Z tp n K p A j b) (hK : 0 < K) (hp : p < (tk tp n j).2.1) : ∃ v A' j', f_X11_need 102 (nI c) (sA h A) = some (v, sA h A') ∧ (v = 0 ∨ v = 1) ∧ WB Z tp n K p A' j' b ∧ p < (tk tp n j').2.1 := by
  have P := tk_pl (tp := tp) (n := n) (j := j) W.1.2.1
  have hn := W.1.2.1
  unfold f_X11_need b_X11_need_0
  rw [v_g R, Option.bind_some]
  split
  · obtain ⟨A', x1, x2, -⟩ := w_next R W
    unfold b_X11_need_19
    rw [v_v R, Option.bind_some, x1, Option.bind_some]
    exact ⟨1, A', j + 1, ok_z_1, Or.inr rfl, x2, by omega⟩
  · obtain ⟨A', x1, x2, -⟩ := w_bg (k := 1) R W (Or.inr ⟨hp, hK⟩) (by omega) (by omega) (by omega)
    unfold b_X11_need_8
    rw [v_g R, Option.bind_some, v_v R, Option.bind_some, W.1.1.2.2.2, show f_X11_bad 102 (1 : Int32) (nI (tk tp n j).2.1) (sA h A) = _ from x1, Option.bind_some]
    refine ⟨0, A', j, ok_z_0, Or.inl rfl, ?_, hp⟩
    unfold bqq at x2
    rw [if_neg (by omega)] at x2
    exact x2
theorem w_emit {a0 a1 a2 a3 a4 : Int32} (R : RZ h) (W : WB Z tp n K p A j b) (hb : b ≤ 160) : ∃ v A', f_X11_emit 102 a0 a1 a2 a3 a4 (sA h A) = some (v, sA h A') ∧ WB Z tp n K p A' j (b + 1) ∧ ∀ r k, ¬ (r = 102 ∧ k = 15) → ¬ (r = 107 ∧ 60 ≤ k) → A' r k = A r k := by
  obtain ⟨T, Q, ⟨i, i1, i2⟩, a, t⟩ := W
  have ek : ∀ r k, ¬ (r = 102 ∧ k = 15) → ¬ (r = 107 ∧ 60 ≤ k) → up_2 (up_2 (up_2 (up_2 (up_2 (up_2 A 102 15 (nI (i + 1))) 107 (60 + 5 * i) a0) 107 (60 + 5 * i + 1) a1) 107 (60 + 5 * i + 2) a2) 107 (60 + 5 * i + 3) a3) 107 (60 + 5 * i + 4) a4 r k = A r k := fun r k k1 k2 => by
    rw [u2 (by omega), u2 (by omega), u2 (by omega), u2 (by omega), u2 (by omega), u2 (by omega)]
  refine ⟨nI i, _, ?_, ⟨rt_cg T (fun r k k1 k2 k3 => ek r k (by omega) (by omega)), ?_, ⟨i + 1, ?_, by omega⟩, ?_, ?_⟩, ek⟩
  · unfold f_X11_emit b_X11_emit_0
    rw [v_g R, Option.bind_some, Option.bind_some, i1, da, v_p R, Option.bind_some, mu, ad, v_r7 R, Option.bind_some, v_s7 R (by omega), Option.bind_some, da, v_r7 R, Option.bind_some, v_s7 R (by omega), Option.bind_some, da, v_r7 R, Option.bind_some, v_s7 R (by omega), Option.bind_some, da, v_r7 R, Option.bind_some, v_s7 R (by omega), Option.bind_some, da, v_r7 R, Option.bind_some, v_s7 R (by omega), Option.bind_some]
  · unfold RQ RFt at Q ⊢
    rw [ek 102 11 (by omega) (by omega), ek 102 12 (by omega) (by omega)]
    exact Q
  · rw [u2 (by omega), u2 (by omega), u2 (by omega), u2 (by omega), u2 (by omega), u2s]
  · rw [ek _ _ (by omega) (by omega)]; exact a
  · rw [ek _ _ (by omega) (by omega)]; exact t
theorem w_act {a1 a2 a3 : Int32} (R : RZ h) (W : WB Z tp n K p A j b) (hq : p = q ∨ (p < q ∧ 0 < K)) (hq1 : q ≤ 1000) : ∃ v A', f_X11_action 102 (nI q) a1 a2 a3 (sA h A) = some (v, sA h A') ∧ WB Z tp n (if A 107 6 = 8 then bqq K p q 4 else K) p A' j b ∧ ∀ r k, ¬ (r = 102 ∧ (k = 11 ∨ k = 12)) → ¬ (r = 107 ∧ (k = 6 ∨ (18 ≤ k ∧ k < 50))) → A' r k = A r k := by
  unfold f_X11_action b_X11_action_0
  rw [v_r7 R, Option.bind_some, show l_i (sA h A) 107 (6 : Int32) = _ from v_l7 (k := 6) R (by omega), Option.bind_some]
  by_cases c : A 107 6 = 8
  · rw [if_pos c, if_pos c]
    obtain ⟨A', x1, x2, x3⟩ := w_bg (k := 4) R W hq hq1 (by omega) (by omega)
    unfold b_X11_action_16
    rw [v_v R, Option.bind_some, show f_X11_bad 102 (4 : Int32) (nI q) (sA h A) = _ from x1, Option.bind_some]
    exact ⟨0, A', rfl, x2, fun r k k1 k2 => x3 r k k1⟩
  · rw [if_neg c, if_neg c]
    obtain ⟨T, Q, i, ⟨a, a1', a2'⟩, t⟩ := W
    have ha : a < 8 := by
      have : a ≠ 8 := fun e => c (by rw [a1', e]; rfl)
      omega
    have ek : ∀ r k, ¬ (r = 107 ∧ (k = 6 ∨ (18 ≤ k ∧ k < 50))) → up_2 (up_2 (up_2 (up_2 (up_2 A 107 (18 + 4 * a) (A 102 17)) 107 (18 + 4 * a + 1) a1) 107 (18 + 4 * a + 2) a2) 107 (18 + 4 * a + 3) a3) 107 6 (nI (a + 1)) r k = A r k := fun r k k1 => by
      rw [u2 (by omega), u2 (by omega), u2 (by omega), u2 (by omega), u2 (by omega)]
    refine ⟨nI a, _, ?_, ⟨rt_cg T (fun r k k1 k2 k3 => ek r k (by omega)), ?_, by rw [ek _ _ (by omega)]; exact i, ⟨a + 1, u2s, by omega⟩, by rw [ek _ _ (by omega)]; exact t⟩, fun r k k1 k2 => ek r k k2⟩
    · unfold b_X11_action_24
      rw [a1', v_r7 R, Option.bind_some, v_g R, Option.bind_some, mu, ad, v_s7 R (by omega), Option.bind_some, da, v_r7 R, Option.bind_some, v_s7 R (by omega), Option.bind_some, da, v_r7 R, Option.bind_some, v_s7 R (by omega), Option.bind_some, da, v_r7 R, Option.bind_some, v_s7 R (by omega), Option.bind_some, v_r7 R, Option.bind_some, show l_i (sA h (up_2 (up_2 (up_2 (up_2 A 107 (18 + 4 * a) (A 102 17)) 107 (18 + 4 * a + 1) a1) 107 (18 + 4 * a + 2) a2) 107 (18 + 4 * a + 3) a3)) 107 (6 : Int32) = _ from v_l7 (k := 6) R (by omega), Option.bind_some, u2 (by omega), u2 (by omega), u2 (by omega), u2 (by omega), a1', da, show s_i (sA h (up_2 (up_2 (up_2 (up_2 A 107 (18 + 4 * a) (A 102 17)) 107 (18 + 4 * a + 1) a1) 107 (18 + 4 * a + 2) a2) 107 (18 + 4 * a + 3) a3)) 107 (6 : Int32) (nI (a + 1)) = _ from v_s7 (k := 6) R (by omega), Option.bind_some]
    · unfold RQ RFt at Q ⊢
      rw [ek 102 11 (by omega), ek 102 12 (by omega)]
      exact Q
theorem w_cell {c : Nat} (R : RZ h) (W : WB Z tp n K p A j b) (hq : p = q ∨ (p < q ∧ 0 < K)) (hq1 : q ≤ 1000) (hc : c < 6) : ∃ A', f_X11_cell 102 (nI c) (nI q) (sA h A) = some (sA h A') ∧ WB Z tp n (if A 107 c = -1 then bqq K p q 2 else K) p A' j b ∧ ∀ r k, ¬ (r = 102 ∧ (k = 11 ∨ k = 12)) → A' r k = A r k := by
  unfold f_X11_cell b_X11_cell_0
  rw [v_r7 R, Option.bind_some, ad, Nat.zero_add, v_l7 R (by omega), Option.bind_some]
  by_cases e : A 107 c = -1
  · rw [if_pos e, if_pos e]
    obtain ⟨A', x1, x2, x3⟩ := w_bg (k := 2) R W hq hq1 (by omega) (by omega)
    unfold b_X11_cell_12
    rw [v_v R, Option.bind_some, show f_X11_bad 102 (2 : Int32) (nI q) (sA h A) = _ from x1, Option.bind_some]
    exact ⟨A', rfl, x2, x3⟩
  · rw [if_neg e, if_neg e]
    exact ⟨A, rfl, W, fun _ _ _ => rfl⟩
theorem w_loc {l : Nat} (R : RZ h) (W : WB Z tp n K p A j b) (hq : p = q ∨ (p < q ∧ 0 < K)) (hq1 : q ≤ 1000) (hl : l < 5) : ∃ A', f_X11_local 102 (nI l) (nI q) (sA h A) = some (sA h A') ∧ WB Z tp n (if A 108 l = -1 ∨ A 108 l = A 102 17 then K else bqq K p q 3) p A' j b ∧ ∀ r k, ¬ (r = 102 ∧ (k = 11 ∨ k = 12)) → ¬ (r = 108 ∧ k = l) → ¬ (r = 107 ∧ k = 9) → A' r k = A r k := by
  have fin : ∀ K (A1 : Nat → Nat → Int32), WB Z tp n K p A1 j b → ∃ A', b_X11_local_39 102 (nI l) (sA h A1) = some (sA h A') ∧ WB Z tp n K p A' j b ∧ ∀ r k, ¬ (r = 107 ∧ k = 9) → A' r k = A1 r k := fun K A1 W1 => by
    unfold b_X11_local_39
    rw [v_r7 R, Option.bind_some, show l_i (sA h A1) 107 (9 : Int32) = _ from v_l7 (k := 9) R (by omega), Option.bind_some, show ∀ v, s_i (sA h A1) 107 (9 : Int32) v = _ from fun v => v_s7 (k := 9) R (by omega), Option.bind_some]
    exact ⟨_, rfl, wb_cg W1 (fun r k k1 k2 k3 => u2 (by omega)), fun r k hk => u2 (by omega)⟩
  unfold f_X11_local b_X11_local_0
  rw [v_r8 R, Option.bind_some, v_l8 R hl, Option.bind_some]
  by_cases e : A 108 l = -1
  · rw [if_pos e, if_pos (Or.inl e)]
    unfold b_X11_local_10
    rw [v_r8 R, Option.bind_some, v_g R, Option.bind_some, v_s8 R hl, Option.bind_some]
    unfold b_X11_local_20
    rw [v_r8 R, Option.bind_some, v_l8 R hl, Option.bind_some, v_g R, Option.bind_some, u2s, u2 (by omega), if_pos rfl]
    obtain ⟨A', x1, x2, x3⟩ := fin K (up_2 A 108 l (A 102 17)) (wb_cg W (fun r k k1 k2 k3 => u2 (by omega)))
    exact ⟨A', x1, x2, fun r k k1 k2 k3 => by rw [x3 r k k3, u2 (by omega)]⟩
  · rw [if_neg e]
    unfold b_X11_local_20
    rw [v_r8 R, Option.bind_some, v_l8 R hl, Option.bind_some, v_g R, Option.bind_some]
    by_cases e2 : A 108 l = A 102 17
    · rw [if_pos e2, if_pos (Or.inr e2)]
      obtain ⟨A', x1, x2, x3⟩ := fin K A W
      exact ⟨A', x1, x2, fun r k k1 k2 k3 => x3 r k k3⟩
    · rw [if_neg e2, if_neg (fun x => x.elim e e2)]
      obtain ⟨A1, y1, y2, y3⟩ := w_bg (k := 3) R W hq hq1 (by omega) (by omega)
      unfold b_X11_local_33
      rw [v_v R, Option.bind_some, show f_X11_bad 102 (3 : Int32) (nI q) (sA h A) = _ from y1, Option.bind_some]
      obtain ⟨A', x1, x2, x3⟩ := fin _ A1 y2
      exact ⟨A', x1, x2, fun r k k1 k2 k3 => by rw [x3 r k k3, y3 r k k1]⟩
theorem w_mk (R : RZ h) (W : WB Z tp n K p A j b) (hq : p = q ∨ (p < q ∧ 0 < K)) (hq1 : q ≤ 1000) : ∃ A', f_X11_makes 102 (nI q) (sA h A) = some (sA h A') ∧ WB Z tp n (if (A 107 11 = -1 ∨ A 107 11 = A 102 17) ∧ ¬ 0 < A 102 19 ∧ A 102 20 = 0 then K else bqq K p q 6) p A' j b ∧ ∀ r k, ¬ (r = 102 ∧ (k = 11 ∨ k = 12)) → ¬ (r = 107 ∧ k = 11) → A' r k = A r k := by
  have fin : ∀ A1 : Nat → Nat → Int32, WB Z tp n K p A1 j b → (∀ r k, ¬ (r = 107 ∧ k = 11) → A1 r k = A r k) → ((A 107 11 = -1 ∨ A 107 11 = A 102 17) ↔ A1 107 11 = A 102 17) → ∃ A', b_X11_makes_22 102 (nI q) (sA h A1) = some (sA h A') ∧ WB Z tp n (if (A 107 11 = -1 ∨ A 107 11 = A 102 17) ∧ ¬ 0 < A 102 19 ∧ A 102 20 = 0 then K else bqq K p q 6) p A' j b ∧ ∀ r k, ¬ (r = 102 ∧ (k = 11 ∨ k = 12)) → ¬ (r = 107 ∧ k = 11) → A' r k = A r k := fun A1 W1 hk hi => by
    obtain ⟨A2, y1, y2, y3⟩ := w_bg (k := 6) R W1 hq hq1 (by omega) (by omega)
    have b50 : b_X11_makes_50 102 (nI q) (sA h A1) = some (sA h A2) := by
      unfold b_X11_makes_50
      rw [v_v R, Option.bind_some, show f_X11_bad 102 (6 : Int32) (nI q) (sA h A1) = _ from y1, Option.bind_some]
      rfl
    have no : ¬ ((A 107 11 = -1 ∨ A 107 11 = A 102 17) ∧ ¬ 0 < A 102 19 ∧ A 102 20 = 0) → ∃ A', b_X11_makes_50 102 (nI q) (sA h A1) = some (sA h A') ∧ WB Z tp n (if (A 107 11 = -1 ∨ A 107 11 = A 102 17) ∧ ¬ 0 < A 102 19 ∧ A 102 20 = 0 then K else bqq K p q 6) p A' j b ∧ ∀ r k, ¬ (r = 102 ∧ (k = 11 ∨ k = 12)) → ¬ (r = 107 ∧ k = 11) → A' r k = A r k := fun c => by
      rw [if_neg c]
      exact ⟨A2, b50, y2, fun r k k1 k2 => by rw [y3 r k k1, hk r k k2]⟩
    unfold b_X11_makes_22
    rw [v_r7 R, Option.bind_some, show l_i (sA h A1) 107 (11 : Int32) = _ from v_l7 (k := 11) R (by omega), Option.bind_some, v_g R, Option.bind_some, hk 102 17 (by omega)]
    by_cases c1 : A1 107 11 = A 102 17
    · rw [if_pos c1]
      unfold b_X11_makes_36
      rw [v_g R, Option.bind_some, hk 102 19 (by omega)]
      by_cases c2 : 0 < A 102 19
      · rw [if_pos c2]
        exact no (fun x => x.2.1 c2)
      · rw [if_neg c2]
        unfold b_X11_makes_43
        rw [v_g R, Option.bind_some, hk 102 20 (by omega)]
        by_cases c3 : A 102 20 = 0
        · rw [if_pos c3, if_pos ⟨hi.mpr c1, c2, c3⟩]
          exact ⟨A1, rfl, W1, fun r k k1 k2 => hk r k k2⟩
        · rw [if_neg c3]
          exact no (fun x => c3 x.2.2)
    · rw [if_neg c1]
      exact no (fun x => c1 (hi.mp x.1))
  unfold f_X11_makes b_X11_makes_0
  rw [v_r7 R, Option.bind_some, show l_i (sA h A) 107 (11 : Int32) = _ from v_l7 (k := 11) R (by omega), Option.bind_some]
  by_cases e : A 107 11 = -1
  · rw [if_pos e]
    unfold b_X11_makes_11
    rw [v_r7 R, Option.bind_some, v_g R, Option.bind_some, show s_i (sA h A) 107 (11 : Int32) (A 102 17) = _ from v_s7 (k := 11) R (by omega), Option.bind_some]
    exact fin _ (wb_cg W (fun r k k1 k2 k3 => u2 (by omega))) (fun r k hk => u2 (by omega)) ⟨fun _ => u2s, fun _ => Or.inl e⟩
  · rw [if_neg e]
    exact fin A W (fun _ _ _ => rfl) ⟨fun x => x.resolve_left e, fun x => Or.inr x⟩
theorem rt_22 {l : Nat} (T : RT Z tp n A j) (hl : l < 5) : RT Z tp n (up_2 A 102 22 (nI l)) j := by
  obtain ⟨⟨t3, t5, t6, t7⟩, hn, hb, ht, hz, -⟩ := T
  refine ⟨?_, hn, hb, fun k hk' => by rw [u2 (by omega)]; exact ht k hk', fun r k k1 k2 k3 => by rw [u2 (by omega)]; exact hz r k k1 k2 k3, l, hl, u2s⟩
  rw [u2 (by omega), u2 (by omega), u2 (by omega), u2 (by omega)]
  exact ⟨t3, t5, t6, t7⟩
theorem wb_22 {l : Nat} (W : WB Z tp n K p A j b) (hl : l < 5) : WB Z tp n K p (up_2 A 102 22 (nI l)) j b := by
  obtain ⟨T, Q, i, a, t⟩ := W
  refine ⟨rt_22 T hl, ?_, by rw [u2 (by omega)]; exact i, by rw [u2 (by omega)]; exact a, by rw [u2 (by omega)]; exact t⟩
  unfold RQ RFt at Q ⊢
  rw [u2 (by omega), u2 (by omega)]
  exact Q
theorem w_last (R : RZ h) (W : WB Z tp n K p A j b) : ∃ v, f_X11_lastWasSum 102 (sA h A) = some (v, sA h A) ∧ (v = 0 ∨ v = 1) := by
  obtain ⟨-, -, -, -, t, t1, t2⟩ := W
  unfold f_X11_lastWasSum b_X11_lastWasSum_0
  rw [v_r7 R, Option.bind_some, Option.bind_some, show l_i (sA h A) 107 (12 : Int32) = _ from v_l7 (k := 12) R (by omega), Option.bind_some, t1, ad, show nI (400 + t) - 1 = nI (399 + t) from by rw [show 400 + t = 399 + t + 1 by omega, ← nI_1, Int32.add_sub_cancel], v_l7 R (by omega), Option.bind_some, show dv_i (A 107 (399 + t)) (100 : Int32) = some (A 107 (399 + t) / 100) from if_neg (by decide), Option.bind_some]
  split
  · exact ⟨1, ok_z_1, Or.inr rfl⟩
  · exact ⟨0, ok_z_0, Or.inl rfl⟩
end
