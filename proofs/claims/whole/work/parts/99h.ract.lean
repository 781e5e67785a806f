/-! ===== the reference's acts, orders 0 and 2 ===== -/
theorem ah_w {P : PA} {V : Nat → Bool} {o : Nat} {a : AS} {t n w k : Nat} : xa_ah P V o a t n w k ↔ xa_ah P V o a t n 0 k ∨ (xa_op P n = 0 ∧ V (xa_ob P n) = true ∧ ∃ m, w = m + 1 ∧ (k = m ∨ as_ea a m k)) := by
  constructor
  · rintro ⟨l, q1 | q1 | ⟨q1, q2, q3⟩ | q1, q⟩
    · exact Or.inl ⟨l, Or.inl q1, q⟩
    · exact Or.inl ⟨l, Or.inr (Or.inl q1), q⟩
    · exact Or.inr ⟨q1, q2, l, q3, q⟩
    · exact Or.inl ⟨l, Or.inr (Or.inr (Or.inr q1)), q⟩
  · rintro (⟨l, q1 | q1 | ⟨q1, q2, q3⟩ | q1, q⟩ | ⟨q1, q2, m, q3, q⟩)
    · exact ⟨l, Or.inl q1, q⟩
    · exact ⟨l, Or.inr (Or.inl q1), q⟩
    · omega
    · exact ⟨l, Or.inr (Or.inr (Or.inr q1)), q⟩
    · exact ⟨m, Or.inr (Or.inr (Or.inl ⟨q1, q2, q3⟩)), q⟩
section
variable {h H : AH} {d s o t n w e : Nat} {g gP g0 F : Nat → Int32} {mo set wI : Int32} {K : Nat → Nat → Int32} {te ow rx : Nat → Nat} {na nt sz : Nat} {V : Nat → Bool} {a : AS} {p : List Nat}
theorem act_dr (Z : KW K te ow na nt sz) (ho : o ≠ 1) (hr : ¬ K 0 e = 9 → rx (e + 1) = rx e + 1) (I : xa_in (KP K) o a) (he : xa_en (KP K) V a t) (D : DR K te ow rx na nt sz o V g0 a p) (ht : t < nt) (hn : n = xa_nx a t) (e1 : e < sz) (e2 : te e = t) (e3 : K 8 n = nI e)
    (q1 : ∀ k, k < 4 → gP k = g0 k) (q2 : ∀ l, l < 5 → ow l ≠ t → gP (4 + l) = g0 (4 + l) ∧ gP (9 + l) = g0 (9 + l))
    (q3 : ∀ l, l < 5 → ow l = t → gP (4 + l) = (xa_rd (KP K) (xa_lm a t) n w (xa_vs a w)).1 l ∧ (∃ v, v ≤ 9 ∧ (xa_rd (KP K) (xa_lm a t) n w (xa_vs a w)).1 l = nI v) ∧ srcR gP (as_do (xa_ac (KP K) V o a t w)) (xa_rd (KP K) (xa_lm a t) n w (xa_vs a w)) l)
    (q4 : ∀ k, k < 8 → k ≠ n → gP (113 + k) = g0 (113 + k)) (q5 : ∀ c, c < 6 → (o = 0 ∨ V c = true) → wR (gP (20 + c)) (as_me (xa_ac (KP K) V o a t w) c))
    (q6 : ∀ m, m < 2 → (as_ho (xa_ac (KP K) V o a t w) m = 0 ∧ gP (26 + m) = -1) ∨ ∃ t', t' < nt ∧ as_ho (xa_ac (KP K) V o a t w) m = t' + 1 ∧ gP (26 + m) = nI t')
    (q7 : ∀ k, k < 8 → as_do (xa_ac (KP K) V o a t w) k → xa_op (KP K) k = 1 → gP (121 + k) = as_wv (xa_ac (KP K) V o a t w) k ∧ ∃ v, v ≤ 9 ∧ as_wv (xa_ac (KP K) V o a t w) k = nI v)
    (q8 : ∀ k, (96 ≤ k ∧ k < 113) ∨ (129 ≤ k ∧ k < 142) → gP k = g0 k) (q9 : mk8 set (xa_ah (KP K) V o a t n w)) :
    DRs K te ow rx na nt sz o V (fun t' => t' ≠ t) (actG gP g0 n t p.length (rx e) set) (xa_ac (KP K) V o a t w) (p ++ [t]) ∧ TR K te ow rx sz o (as_do (xa_ac (KP K) V o a t w)) (actG gP g0 n t p.length (rx e) set) t (xa_rd (KP K) (xa_lm a t) n w (xa_vs a w)) (e + 1) := by
  have W := kp_wf Z
  have hna := Z.1
  have hnt := Z.2.1
  have hsz := Z.2.2.1
  have hnn : n < na := by have := he.2.1; rw [kp_na Z] at this; omega
  obtain ⟨r1, r2, r3⟩ := rka_ac (w := w) W I he
  have hnd := xa_nx_nd W I he.1 he.2.1
  have hth := xa_nx_th W I he.1 he.2.1
  rw [← hn] at hnd hth
  obtain ⟨d1, d2, d3, d4, ⟨d5, d6, d7⟩, d8, d9⟩ := D
  obtain ⟨m1, m2, m3, m4, m5⟩ := d8 ho
  have hp7 : p.length ≤ 7 := by omega
  have G0 : ∀ k, k ≠ 105 + n → k ≠ 129 → k ≠ 130 + t → k ≠ 97 + p.length → k ≠ 96 → k ≠ t → actG gP g0 n t p.length (rx e) set k = gP k := fun k a1 a2 a3 a4 a5 a6 => by
    unfold actG
    rw [up_ne a6, up_ne a5, up_ne a4, up_ne a3, up_ne a2, up_ne a1]
  have Gt : actG gP g0 n t p.length (rx e) set t = nI (rx e + 1) := by unfold actG; rw [up_same]
  have G96 : actG gP g0 n t p.length (rx e) set 96 = nI (p.length + 1) := by unfold actG; rw [up_ne (by omega), up_same]
  have G97 : actG gP g0 n t p.length (rx e) set (97 + p.length) = nI t := by unfold actG; rw [up_ne (by omega), up_ne (by omega), up_same]
  have G13 : actG gP g0 n t p.length (rx e) set (130 + t) = nI n := by unfold actG; rw [up_ne (by omega), up_ne (by omega), up_ne (by omega), up_same]
  have G12 : actG gP g0 n t p.length (rx e) set 129 = (g0 129 ||| ((1 : Int32) <<< (nI n &&& 31))) := by unfold actG; rw [up_ne (by omega), up_ne (by omega), up_ne (by omega), up_ne (by omega), up_same]
  have G10 : actG gP g0 n t p.length (rx e) set (105 + n) = set := by unfold actG; rw [up_ne (by omega), up_ne (by omega), up_ne (by omega), up_ne (by omega), up_ne (by omega), up_same]
  have dos : ∀ k, as_do (xa_ac (KP K) V o a t w) k ↔ k = n ∨ as_do a k := fun k => by rw [xa_ac_do, up_true, hn]
  obtain ⟨-, op, a1, a2, a3, a4, a5, -⟩ := Z.2.2.2.2.2.2.2.1 e e1
  have hop : op ≤ 5 := by
    obtain ⟨e', op', b1, b2, b3, b4, b5, b6, -⟩ := kp_act Z hnn
    have : e = e' := by rw [e3, nI_eq (by omega) (by omega)] at b2; exact b2
    subst this
    rw [b5, nI_eq (by omega) (by omega)] at a1
    omega
  obtain ⟨b1, b2⟩ := a5 (by omega)
  refine ⟨⟨fun t' ht' hne => ?_, fun l hl hol => ?_, fun m hm => ?_, fun t' ht' => ?_, ⟨?_, ?_, fun i hi => ?_⟩, fun _ => ⟨fun c hc hv => ?_, fun k hk => ?_, fun k hk => ?_, ?_, fun t' ht' => ?_⟩, fun x => absurd x ho⟩, ?_, b1, b2.trans e2, fun l hl hol => ?_, fun _ l hl hol => ?_⟩
  · obtain ⟨e', T', c⟩ := d1 t' ht'
    unfold DTh
    rw [xa_ac_lm_ne hne, xa_ac_nx_ne hne]
    refine ⟨e', dt_cg (by omega) ?_ (fun l hl ho' => ?_) (fun k hk hd => ?_) T', c⟩
    · rw [G0 _ (by omega) (by omega) (by omega) (by omega) (by omega) hne]
      exact q1 _ (by omega)
    · rw [G0 _ (by omega) (by omega) (by omega) (by omega) (by omega) (by omega), G0 _ (by omega) (by omega) (by omega) (by omega) (by omega) (by omega)]
      exact q2 l hl (by rw [ho']; exact hne)
    · have hkn : k ≠ n := fun x => hnd (x ▸ hd)
      refine ⟨?_, (dos k).mpr (Or.inr hd)⟩
      rw [G0 _ (by omega) (by omega) (by omega) (by omega) (by omega) (by omega)]
      exact q4 k hk hkn
  · rw [G0 _ (by omega) (by omega) (by omega) (by omega) (by omega) (by omega), (q2 l hl (by omega)).1]
    exact d2 l hl hol
  · rw [G0 _ (by omega) (by omega) (by omega) (by omega) (by omega) (by omega)]
    exact q6 m hm
  · by_cases ett : t' = t
    · subst ett
      exact Or.inr ⟨n, by omega, G13⟩
    · rw [G0 _ (by omega) (by omega) (by omega) (by omega) (by omega) (by omega), q8 _ (by omega)]
      exact d4 t' ht'
  · rw [G96, List.length_append]
    rfl
  · rw [List.length_append, r1]
    show p.length + 1 ≤ _
    omega
  · rw [List.length_append] at hi
    have hi' : i < p.length + 1 := hi
    by_cases ei : i = p.length
    · subst ei
      rw [G97, List.getD_eq_getElem?_getD, List.getElem?_append_right (Nat.le_refl _), Nat.sub_self]
      rfl
    · rw [G0 _ (by omega) (by omega) (by omega) (by omega) (by omega) (by omega), q8 _ (by omega), d7 i (by omega), List.getD_eq_getElem?_getD, List.getD_eq_getElem?_getD, List.getElem?_append_left (by omega)]
  · rw [G0 _ (by omega) (by omega) (by omega) (by omega) (by omega) (by omega)]
    exact q5 c hc hv
  · rw [xa_ac_ea, ← hn]
    by_cases ek : k = n
    · subst ek
      rw [G10, up_same]
      exact q9
    · rw [G0 _ (by omega) (by omega) (by omega) (by omega) (by omega) (by omega), q8 _ (by omega), up_ne ek]
      exact m2 k hk
  · rw [G0 _ (by omega) (by omega) (by omega) (by omega) (by omega) (by omega)]
    exact q7 k hk
  · rw [G12]
    exact mk8_cg (fun k _ => ((dos k).trans Or.comm).symm) (mk8_or m4 (mk8_1 (by omega)))
  · by_cases ett : t' = t
    · subst ett
      refine Or.inr ⟨n, by omega, G13, (dos n).mpr (Or.inl rfl), hth, fun m hm hmt => ?_⟩
      obtain rfl | hm := (dos m).mp hm
      · exact Nat.le_refl _
      · have := (I.2.1 m hm).2
        rw [hmt, ← hn] at this
        omega
    · rw [G0 _ (by omega) (by omega) (by omega) (by omega) (by omega) (by omega), q8 _ (by omega)]
      obtain ⟨c1, c2⟩ | ⟨n', n8, c1, c2, c3, c4⟩ := m5 t' ht'
      · left
        refine ⟨c1, fun m hm => ?_⟩
        obtain rfl | hm := (dos m).mp hm
        · rw [hth]; exact fun x => ett x.symm
        · exact c2 m hm
      · right
        refine ⟨n', n8, c1, (dos n').mpr (Or.inr c2), c3, fun m hm hmt => ?_⟩
        obtain rfl | hm := (dos m).mp hm
        · rw [hth] at hmt; exact absurd hmt.symm ett
        · exact c4 m hm hmt
  · rw [Gt, hr (by rw [a1, show (9 : Int32) = nI 9 from rfl, nI_eq (by omega) (by omega)]; omega)]
  · rw [G0 _ (by omega) (by omega) (by omega) (by omega) (by omega) (by omega)]
    exact ⟨(q3 l hl hol).1, (q3 l hl hol).2.1⟩
  · obtain ⟨-, -, c⟩ := q3 l hl hol
    obtain ⟨c1, c2⟩ | ⟨n', n8, c1, c2, c3⟩ := c
    · left
      rw [G0 _ (by omega) (by omega) (by omega) (by omega) (by omega) (by omega)]
      exact ⟨c1, c2⟩
    · right
      refine ⟨n', n8, c1, ?_, ?_⟩
      · rw [G0 _ (by omega) (by omega) (by omega) (by omega) (by omega) (by omega)]; exact c2
      · rw [G0 _ (by omega) (by omega) (by omega) (by omega) (by omega) (by omega)]; exact c3
/-- acts, up to the kind of its instruction -/
theorem x_act0 {k : Nat} (E : RE h s F o mo) (hd : d + 1 < 20) (ht : t < 4) (hk : k < 66) (hpc : rowv h d t = nI k) (ha : f_X11_ahead 102 (nI d) (nI t) (sR h (d + 1) (rowv h d)) = some (set, sR h (d + 1) (rowv h d))) :
    f_X11_acts 102 (nI d) (nI t) wI h = if F (60 + 5 * k + 0) = 0 then b_X11_acts_66 102 (nI d) (nI t) wI (nI (d + 1)) (nI k) (F (60 + 5 * k + 0)) (F (60 + 5 * k + 1)) (F (60 + 5 * k + 2)) set (sR h (d + 1) (rowv h d)) else b_X11_acts_60 102 (nI d) (nI t) wI (nI (d + 1)) (nI k) (F (60 + 5 * k + 0)) (F (60 + 5 * k + 1)) (F (60 + 5 * k + 2)) set (sR h (d + 1) (rowv h d)) := by
  have z : (0 : Int32) + nI t = nI t := by rw [ad, Nat.zero_add]
  have E1 : RE (sR h (d + 1) (rowv h d)) s F o mo := sR_re E
  have ins : ∀ i, i < 5 → f_X11_instr 102 (nI k) (nI i) (sR h (d + 1) (rowv h d)) = some (F (60 + 5 * k + i), sR h (d + 1) (rowv h d)) := fun i hi => x_ins E1 (by omega)
  unfold f_X11_acts b_X11_acts_0
  rw [x_ok E, Option.bind_some, x_copy E hd, Option.bind_some, x_ok E1, Option.bind_some, z, x_so E (by omega) (by omega) (by omega), Option.bind_some, hpc, x_ok E1, Option.bind_some, show f_X11_instr 102 (nI k) (0 : Int32) (sR h (d + 1) (rowv h d)) = _ from ins 0 (by omega), Option.bind_some, x_ok E1, Option.bind_some, show f_X11_instr 102 (nI k) (1 : Int32) (sR h (d + 1) (rowv h d)) = _ from ins 1 (by omega), Option.bind_some, x_ok E1, Option.bind_some, show f_X11_instr 102 (nI k) (2 : Int32) (sR h (d + 1) (rowv h d)) = _ from ins 2 (by omega), Option.bind_some, x_ok E1, Option.bind_some, ha, Option.bind_some, da]
/-- a read, up to its end -/
theorem x_act66 {k n c l : Nat} {op v : Int32} (E : RE h s F o mo) (hd : d + 1 < 20) (ht : t < 4) (hk : k < 66) (hn : n < 8) (hc : c < 6) (hl : l < 5) (h3 : F (60 + 5 * k + 3) = nI l) (hV : V c = true ↔ F c = 1 ∨ (mo >>> (nI c &&& 31)) &&& (1 : Int32) = 1) (hw : wR wI w)
    (hv1 : o = 1 → f_X11_queuedValue 102 (nI d) (nI t) (nI c) (sR h (d + 1) (rowv h d)) = some (v, sR h (d + 1) (rowv h d))) (hv2 : o ≠ 1 → v = if wI = -1 then 0 else rowv h d (121 + ix wI)) :
    b_X11_acts_66 102 (nI d) (nI t) wI (nI (d + 1)) (nI k) op (nI n) (nI c) set (sR h (d + 1) (rowv h d)) = b_X11_acts_286 102 (nI d) (nI t) (nI (d + 1)) (nI k) (nI n) (if V c = true ∧ ¬ wI = -1 then set ||| (rowv h d (105 + ix wI) ||| ((1 : Int32) <<< (wI &&& 31))) else set) (sR h (d + 1) (up_1 (up_1 (up_1 (rowv h d) (4 + l) v) (9 + l) (if op = 0 then nI n else -1)) (113 + n) wI)) := by
  have o1 : ∀ G, ok_v (sR h (d + 1) G) 102 11 = some () := fun G => x_ok (sR_re E)
  have s1 : ∀ G (k : Nat), k < 142 → f_X11_st 102 (nI d) (nI k) (sR h (d + 1) G) = some (rowv h d k, sR h (d + 1) G) := fun G k hk => x_so E (by omega) hk (by omega)
  have p1 : ∀ G (k : Nat) v, k < 142 → f_X11_put 102 (nI (d + 1)) (nI k) v (sR h (d + 1) G) = some (sR h (d + 1) (up_1 G k v)) := fun G k v hk => x_put E (by omega) hk
  have hw8 : wI = -1 ∨ ∃ m, m < 8 ∧ wI = nI m := by
    obtain ⟨-, c⟩ | ⟨m, c1, -, c2⟩ := hw
    · exact Or.inl c
    · exact Or.inr ⟨m, c1, c2⟩
  have w119 : ∀ v, b_X11_acts_119 102 (nI d) (nI t) wI (nI (d + 1)) (nI k) op (nI n) (nI c) set (nI l) 102 (nI (d + 1)) (nI (4 + l)) v (sR h (d + 1) (rowv h d)) = b_X11_acts_286 102 (nI d) (nI t) (nI (d + 1)) (nI k) (nI n) (if V c = true ∧ ¬ wI = -1 then set ||| (rowv h d (105 + ix wI) ||| ((1 : Int32) <<< (wI &&& 31))) else set) (sR h (d + 1) (up_1 (up_1 (up_1 (rowv h d) (4 + l) v) (9 + l) (if op = 0 then nI n else -1)) (113 + n) wI)) := fun v => by
    have w141 : ∀ x, b_X11_acts_141 102 (nI d) (nI t) wI (nI (d + 1)) (nI k) (nI n) (nI c) set 102 (nI (d + 1)) (nI (9 + l)) x (sR h (d + 1) (up_1 (rowv h d) (4 + l) v)) = b_X11_acts_286 102 (nI d) (nI t) (nI (d + 1)) (nI k) (nI n) (if V c = true ∧ ¬ wI = -1 then set ||| (rowv h d (105 + ix wI) ||| ((1 : Int32) <<< (wI &&& 31))) else set) (sR h (d + 1) (up_1 (up_1 (up_1 (rowv h d) (4 + l) v) (9 + l) x) (113 + n) wI)) := fun x => by
      unfold b_X11_acts_141
      rw [o1, Option.bind_some, p1 _ _ _ (by omega), Option.bind_some, o1, Option.bind_some, ad, p1 _ _ _ (by omega), Option.bind_some, o1, Option.bind_some, x_vol (V := V) (sR_re E) hc hV, Option.bind_some]
      by_cases v : V c = true
      · rw [if_pos v, if_neg n10]
        unfold b_X11_acts_165
        obtain q | ⟨m, m8, q⟩ := hw8
        · rw [if_pos q, if_neg (fun x => x.2 q)]
          rfl
        · rw [if_neg (by rw [q]; exact nI_ne1 (by omega)), if_pos ⟨v, by rw [q]; exact nI_ne1 (by omega)⟩]
          unfold b_X11_acts_170
          rw [q, o1, Option.bind_some, x_with (sR_re E) (by omega) (by omega), Option.bind_some, sR_ne (by omega) (by omega), ix_nI (by omega)]
          rfl
      · rw [if_neg v, if_pos rfl, if_neg (fun x => v x.1)]
        rfl
    unfold b_X11_acts_119
    rw [o1, Option.bind_some, p1 _ _ _ (by omega), Option.bind_some, ad]
    unfold b_X11_acts_135 b_X11_acts_140
    rw [w141, w141]
    split <;> rfl
  unfold b_X11_acts_66
  rw [o1, Option.bind_some, show f_X11_instr 102 (nI k) (3 : Int32) (sR h (d + 1) (rowv h d)) = some (F (60 + 5 * k + 3), _) from x_ins (k := 3) (sR_re E) (by omega), Option.bind_some, h3, x_o (sR_re E), Option.bind_some, ad]
  have oe : nI o = 1 ↔ o = 1 := nI_eq (b := 1) (by have := E.2.2.1; omega) (by omega)
  by_cases c1 : o = 1
  · rw [if_pos (oe.mpr c1)]
    unfold b_X11_acts_90
    rw [o1, Option.bind_some, hv1 c1, Option.bind_some]
    exact w119 v
  · rw [if_neg (fun x => c1 (oe.mp x))]
    unfold b_X11_acts_101
    have e2 := hv2 c1
    by_cases c2 : wI = -1
    · rw [if_pos c2]
      rw [if_pos c2] at e2
      unfold b_X11_acts_106
      rw [e2]
      exact w119 0
    · rw [if_neg c2]
      rw [if_neg c2] at e2
      unfold b_X11_acts_110
      obtain q | ⟨m, m8, q⟩ := hw8
      · exact absurd q c2
      · rw [q] at e2
        rw [ix_nI (by omega)] at e2
        rw [o1, Option.bind_some]
        have : (121 : Int32) + wI = nI (121 + m) := by rw [q, ad]
        rw [this, s1 _ _ (by omega), Option.bind_some, ← e2]
        exact w119 v
/-- what settle makes of it -/
theorem act_se (P : PR F K te ow rx na nt sz V mo) (E : RE h s F o mo) (hd : d < 20) (ho : o ≠ 1) (I' : xa_in (KP K) o (xa_ac (KP K) V o a t w)) (ht : t < nt) (hn : n = xa_nx a t) (e3 : K 8 n = nI e) (e1 : e < sz)
    (D : DRs K te ow rx na nt sz o V (fun t' => t' ≠ t) g (xa_ac (KP K) V o a t w) p) (T : TR K te ow rx sz o (as_do (xa_ac (KP K) V o a t w)) g t (xa_rd (KP K) (xa_lm a t) n w (xa_vs a w)) (e + 1)) :
    ∃ g', f_X11_settle 102 (nI d) (nI t) (sR h d g) = some (sR h d g') ∧ DR K te ow rx na nt sz o V g' (xa_ac (KP K) V o a t w) p := by
  have Z := P.1
  have hna := Z.1
  have hsz := Z.2.2.1
  have hnt := Z.2.1
  have kc : pa_kc (KP K) n (xa_rd (KP K) (xa_lm a t) n w (xa_vs a w)) = w_go K 64 (xa_rd (KP K) (xa_lm a t) n w (xa_vs a w)) (e + 1) := by
    show w_go K 64 _ (ix (K 8 n) + 1) = _
    rw [e3, ix_nI (by omega)]
  obtain ⟨g', e', fu', x1, x2, x3, x4, -, x5, x6⟩ := dr_seg (fu := fu_) P E hd ht I' (fun _ h => h) D T (by rw [xa_ac_lm, ← hn, kc]) (by rw [xa_ac_nx, ← hn, kc]) (by decide)
  have hf : 100000 < fu' := by
    have : fu_ = 200000 := rfl
    have := x5.2.1
    omega
  obtain ⟨f, rfl⟩ : ∃ f, fu' = f + 2 := ⟨fu' - 2, by omega⟩
  have rb := P.2.2.2.2.2.2.1 e' (by have := x5.2.1; omega)
  refine ⟨g', ?_, s_dr x4 (fun t' _ => by by_cases c : t' = t; exact Or.inr c; exact Or.inl c)⟩
  unfold f_X11_settle b_X11_settle_0
  rw [x1]
  have he' := x5.2.1
  refine se_stop E hd (by omega) x5.1 (by omega) rfl ?_
  have rI := P.2.2.2.2.2.1 e' he'
  obtain ⟨c1, -⟩ | ⟨c1, c2, c3⟩ := x6
  · have := (rI.2.1 (by rw [c1]; decide)).2
    rw [if_pos c1] at this
    rw [this]
    rintro (c | c | c | ⟨c, -⟩)
    · exact absurd c (by decide)
    · exact absurd c (by decide)
    · exact absurd c (by decide)
    · exact ho c
  · obtain ⟨e'', op, b1, b2, b3, b4, -⟩ := an_f P c1
    have : e'' = e' := by rw [c3, nI_eq (by omega) (by omega)] at b2; exact b2.symm
    subst this
    have := (rI.2.1 (by rw [b3, show (9 : Int32) = nI 9 from rfl, nI_eq (by omega) (by omega)]; omega)).2
    rw [if_neg (by rw [b3, show (10 : Int32) = nI 10 from rfl, nI_eq (by omega) (by omega)]; omega)] at this
    rw [this, b3, show (6 : Int32) = nI 6 from rfl, show (7 : Int32) = nI 7 from rfl, show (8 : Int32) = nI 8 from rfl, nI_eq (by omega) (by omega), nI_eq (by omega) (by omega), nI_eq (by omega) (by omega)]
    rintro (c | c | c | ⟨c, -⟩)
    · omega
    · omega
    · omega
    · exact ho c
end
