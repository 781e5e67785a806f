/-! ===== order 1: the reference's acts and empties ===== -/
section
variable {h H : AH} {d s t w : Nat} {g F : Nat → Int32} {mo wI : Int32} {K : Nat → Nat → Int32} {te ow rx : Nat → Nat} {na nt sz : Nat} {V : Nat → Bool} {a : AS} {p : List Nat}
theorem gd_mem {qs : List Nat} {i : Nat} (hi : i < qs.length) : qs.getD i 0 ∈ qs := by
  rw [List.getD_eq_getElem?_getD, List.getElem?_eq_getElem hi]
  exact List.getElem_mem _
/-- the value that is read from the queue or the cell -/
theorem qv_val {f : Nat → Int32} {qs : List Nat} {ob : Nat → Nat} {wv : Nat → Int32} {c : Nat} (hc : c < 6) (h1 : ∀ i, i < qs.length → f (32 + 8 * t + i) = nI (ob (qs.getD i 0)) ∧ f (64 + 8 * t + i) = wv (qs.getD i 0)) (h2 : ∀ m, m ∈ qs → ob m < 2 ^ 31) (h3 : qs.Pairwise (· < ·)) : ∀ n i x, i + n = qs.length →
    (∃ m, m ∈ qs.drop i ∧ ob m = c ∧ (∀ m', m' ∈ qs.drop i → ob m' = c → m' ≤ m) ∧ qv f t (nI c) n i x = wv m) ∨ ((∀ m, m ∈ qs.drop i → ¬ ob m = c) ∧ qv f t (nI c) n i x = x) := by
  intro n
  induction n with
  | zero =>
    intro i x hi
    right
    rw [List.drop_of_length_le (by omega)]
    exact ⟨fun m hm => (List.not_mem_nil hm).elim, rfl⟩
  | succ n ih =>
    intro i x hi
    have hil : i < qs.length := by omega
    have dr : qs.drop i = qs.getD i 0 :: qs.drop (i + 1) := by
      rw [List.drop_eq_getElem_cons hil, List.getD_eq_getElem?_getD, List.getElem?_eq_getElem hil]
      rfl
    obtain ⟨y1, y2⟩ := h1 i hil
    have ec : f (32 + 8 * t + i) = nI c ↔ ob (qs.getD i 0) = c := by
      rw [y1]
      exact nI_eq (h2 _ (gd_mem hil)) (by omega)
    show (∃ m, _ ∧ _ ∧ _ ∧ qv f t (nI c) n (i + 1) (if f (32 + 8 * t + i) = nI c then f (64 + 8 * t + i) else x) = wv m) ∨ (_ ∧ qv f t (nI c) n (i + 1) (if f (32 + 8 * t + i) = nI c then f (64 + 8 * t + i) else x) = x)
    have lt : ∀ m, m ∈ qs.drop (i + 1) → qs.getD i 0 < m := fun m hm => by
      have := h3.sublist (List.drop_sublist i qs)
      rw [dr] at this
      exact List.rel_of_pairwise_cons this hm
    obtain ⟨m, m1, m2, m3, m4⟩ | ⟨m1, m2⟩ := ih (i + 1) (if f (32 + 8 * t + i) = nI c then f (64 + 8 * t + i) else x) (by omega)
    · left
      refine ⟨m, by rw [dr]; exact List.mem_cons_of_mem _ m1, m2, fun m' hm' ho' => ?_, m4⟩
      rw [dr] at hm'
      obtain rfl | hm' := List.mem_cons.mp hm'
      · exact Nat.le_of_lt (lt m m1)
      · exact m3 m' hm' ho'
    · rw [m2]
      by_cases c1 : ob (qs.getD i 0) = c
      · left
        rw [if_pos (ec.mpr c1)]
        refine ⟨qs.getD i 0, by rw [dr]; exact List.mem_cons_self, c1, fun m' hm' ho' => ?_, y2⟩
        rw [dr] at hm'
        obtain rfl | hm' := List.mem_cons.mp hm'
        · exact Nat.le_refl _
        · exact absurd ho' (m1 m' hm')
      · right
        rw [if_neg (fun z => c1 (ec.mp z))]
        refine ⟨fun m' hm' => ?_, rfl⟩
        rw [dr] at hm'
        obtain rfl | hm' := List.mem_cons.mp hm'
        · exact c1
        · exact m1 m' hm'
theorem x_qv1 {c : Nat} (P : PR F K te ow rx na nt sz V mo) (E : RE H s F 1 mo) (hd : d < 20) (I : xa_in (KP K) 1 a) (D : DR K te ow rx na nt sz 1 V (rowv H d) a p) (ht : t < nt) (hc : c < 6) (hop : xa_op (KP K) (xa_nx a t) = 0 ∨ xa_op (KP K) (xa_nx a t) = 2) (hob : xa_ob (KP K) (xa_nx a t) = c) (hs : xa_se (KP K) V 1 a t w) :
    f_X11_queuedValue 102 (nI d) (nI t) (nI c) H = some (xa_vs a w, H) ∧ ∃ v, v ≤ 9 ∧ xa_vs a w = nI v := by
  have Z := P.1
  have hna := Z.1
  have hnt := Z.2.1
  have hsz := Z.2.2.1
  obtain ⟨q1, q2, q3⟩ := D.2.2.2.2.2.2 rfl
  obtain ⟨qs, u1, u2, u3, u4⟩ := q3 t ht
  have mq : ∀ m, m ∈ qs → m < na ∧ xa_ob (KP K) m < 6 := fun m hm => by
    obtain ⟨y1, y2, -⟩ := I.2.2.2.1 m ((u3 m).mp hm).1
    have := (I.2.1 m y1).1
    rw [kp_na Z] at this
    obtain ⟨el, opl, w1, w2, w3, w4, w5, w6, w7, w8, w9, w10, w11, w12⟩ := an_f P this
    obtain ⟨-, o1, g1, gb1, -, -, -, g2, -⟩ := Z.2.2.2.2.2.2.2.1 el w1
    have e1 : o1 = 1 := by rw [w3, ← w8, y2] at g1; exact ((nI_eq (by omega) (by omega)).mp g1).symm
    obtain ⟨cc, v1, v2⟩ := g2 (by omega)
    exact ⟨this, by rw [w10, v2, ix_nI (by omega)]; exact v1⟩
  have len8 : qs.length ≤ 8 := q_len u2 (fun m hm => by have := (mq m hm).1; omega)
  have ev := e_qv (h := H) (d := d) (t := t) (L := qs.length) (c := c) E.1 hd (by omega) hc len8 u1
  rw [ev]
  unfold xa_se at hs
  rw [if_pos hop, if_neg (by omega), if_pos rfl, hob] at hs
  have qc : ∀ m, xa_qc (KP K) a t c m ↔ m ∈ qs ∧ xa_ob (KP K) m = c := fun m => by
    rw [u3]
    unfold xa_qc
    exact ⟨fun x => ⟨⟨x.1, x.2.1⟩, x.2.2⟩, fun x => ⟨x.1.1, x.1.2, x.2⟩⟩
  have key := qv_val (t := t) (f := fun k => hp_i H 109 (142 * d + k)) (qs := qs) (ob := xa_ob (KP K)) (wv := as_wv a) hc (fun i hi => ⟨(u4 i hi).1, (u4 i hi).2.1⟩) (fun m hm => by have := (mq m hm).2; omega) u2 qs.length 0 (hp_i H 109 (142 * d + (14 + c))) (by omega)
  rw [List.drop_zero] at key
  obtain ⟨m, m1, m2, m3, m4⟩ | ⟨m1, m2⟩ := key
  · rw [m4]
    obtain ⟨m', z1, z2, z3⟩ | ⟨z1, z2⟩ := hs
    · have em : m' = m := by
        have y2 := (qc m').mp z2
        have := m3 m' y2.1 y2.2
        apply Classical.byContradiction
        intro hne
        exact z3 m (by omega) ((qc m).mpr ⟨m1, m2⟩)
      subst em
      rw [z1]
      refine ⟨rfl, ?_⟩
      obtain ⟨i, hi, e⟩ := List.getElem_of_mem m1
      have : qs.getD i 0 = m' := by rw [List.getD_eq_getElem?_getD, List.getElem?_eq_getElem hi, e]; rfl
      have := (u4 i hi).2.2
      rw [‹qs.getD i 0 = m'›] at this
      exact this
    · exact absurd ((qc m).mpr ⟨m1, m2⟩) (z1 m)
  · rw [m2]
    obtain ⟨m', z1, z2, z3⟩ | ⟨z1, z2⟩ := hs
    · exact absurd ((qc m').mp z2).2 (m1 m' ((qc m').mp z2).1)
    · rw [z2]
      have := q1 c hc
      refine ⟨?_, ?_⟩
      · rw [← this.1]; rfl
      · rw [← this.1]; exact this.2
theorem act_dr1 {n e : Nat} {gP g0 : Nat → Int32} {set : Int32} (Z : KW K te ow na nt sz) (hr : ¬ K 0 e = 9 → rx (e + 1) = rx e + 1) (I : xa_in (KP K) 1 a) (he : xa_en (KP K) V a t) (D : DR K te ow rx na nt sz 1 V g0 a p) (ht : t < nt) (hn : n = xa_nx a t) (e1 : e < sz) (e2 : te e = t) (e3 : K 8 n = nI e) (n1 : ¬ xa_op (KP K) n = 1)
    (q1 : ∀ k, k < 4 → gP k = g0 k) (q2 : ∀ l, l < 5 → ow l ≠ t → gP (4 + l) = g0 (4 + l) ∧ gP (9 + l) = g0 (9 + l))
    (q3 : ∀ l, l < 5 → ow l = t → gP (4 + l) = (xa_rd (KP K) (xa_lm a t) n w (xa_vs a w)).1 l ∧ (∃ v, v ≤ 9 ∧ (xa_rd (KP K) (xa_lm a t) n w (xa_vs a w)).1 l = nI v))
    (q4 : ∀ k, k < 8 → k ≠ n → gP (113 + k) = g0 (113 + k)) (q5 : ∀ k, 14 ≤ k → k < 96 → k ≠ 26 → k ≠ 27 → gP k = g0 k)
    (q6 : ∀ m, m < 2 → (as_ho (xa_ac (KP K) V 1 a t w) m = 0 ∧ gP (26 + m) = -1) ∨ ∃ t', t' < nt ∧ as_ho (xa_ac (KP K) V 1 a t w) m = t' + 1 ∧ gP (26 + m) = nI t')
    (q8 : ∀ k, (96 ≤ k ∧ k < 113) ∨ (129 ≤ k ∧ k < 142) → gP k = g0 k) :
    DRs K te ow rx na nt sz 1 V (fun t' => t' ≠ t) (actG gP g0 n t p.length (rx e) set) (xa_ac (KP K) V 1 a t w) (p ++ [t]) ∧ TR K te ow rx sz 1 (as_do (xa_ac (KP K) V 1 a t w)) (actG gP g0 n t p.length (rx e) set) t (xa_rd (KP K) (xa_lm a t) n w (xa_vs a w)) (e + 1) := by
  have W := kp_wf Z
  have hna := Z.1
  have hnt := Z.2.1
  have hsz := Z.2.2.1
  have hnn : n < na := by have := he.2.1; rw [kp_na Z] at this; omega
  obtain ⟨r1, r2, r3⟩ := rka_ac (w := w) W I he
  have hnd := xa_nx_nd W I he.1 he.2.1
  rw [← hn] at hnd
  obtain ⟨d1, d2, d3, d4, ⟨d5, d6, d7⟩, d8, d9⟩ := D
  obtain ⟨m1, m2, m3⟩ := d9 rfl
  have hp7 : p.length ≤ 7 := by omega
  have G0 : ∀ k, k ≠ 105 + n → k ≠ 129 → k ≠ 130 + t → k ≠ 97 + p.length → k ≠ 96 → k ≠ t → actG gP g0 n t p.length (rx e) set k = gP k := fun k a1 a2 a3 a4 a5 a6 => by
    unfold actG
    rw [up_ne a6, up_ne a5, up_ne a4, up_ne a3, up_ne a2, up_ne a1]
  have Gt : actG gP g0 n t p.length (rx e) set t = nI (rx e + 1) := by unfold actG; rw [up_same]
  have G96 : actG gP g0 n t p.length (rx e) set 96 = nI (p.length + 1) := by unfold actG; rw [up_ne (by omega), up_same]
  have G97 : actG gP g0 n t p.length (rx e) set (97 + p.length) = nI t := by unfold actG; rw [up_ne (by omega), up_ne (by omega), up_same]
  have G13 : actG gP g0 n t p.length (rx e) set (130 + t) = nI n := by unfold actG; rw [up_ne (by omega), up_ne (by omega), up_ne (by omega), up_same]
  have dos : ∀ k, as_do (xa_ac (KP K) V 1 a t w) k ↔ k = n ∨ as_do a k := fun k => by rw [xa_ac_do, up_true, hn]
  obtain ⟨-, op, a1, a2, a3, a4, a5, -⟩ := Z.2.2.2.2.2.2.2.1 e e1
  have hop : op ≤ 5 := by
    obtain ⟨e', op', b1, b2, b3, b4, b5, b6, -⟩ := kp_act Z hnn
    have : e = e' := by rw [e3, nI_eq (by omega) (by omega)] at b2; exact b2
    subst this
    rw [b5, nI_eq (by omega) (by omega)] at a1
    omega
  obtain ⟨b1, b2⟩ := a5 (by omega)
  have ame : as_me (xa_ac (KP K) V 1 a t w) = as_me a := by rw [xa_ac_me, ← hn, if_neg (fun x => n1 x.1)]
  have awv : as_wv (xa_ac (KP K) V 1 a t w) = as_wv a := by rw [xa_ac_wv, ← hn, if_neg n1]
  have aqu : as_qu (xa_ac (KP K) V 1 a t w) = as_qu a := by rw [xa_ac_qu, ← hn, if_neg (fun x => n1 x.1)]
  have lo : ∀ k, 14 ≤ k → k < 96 → k ≠ 26 → k ≠ 27 → actG gP g0 n t p.length (rx e) set k = g0 k := fun k k1 k2 k3 k4 => by
    rw [G0 _ (by omega) (by omega) (by omega) (by omega) (by omega) (by omega)]
    exact q5 k k1 k2 k3 k4
  refine ⟨⟨fun t' ht' hne => ?_, fun l hl hol => ?_, fun m hm => ?_, fun t' ht' => ?_, ⟨?_, ?_, fun i hi => ?_⟩, fun x => absurd rfl x, fun _ => ⟨fun c hc => ?_, fun c hc => ?_, fun t' ht' => ?_⟩⟩, ?_, b1, b2.trans e2, fun l hl hol => ?_, fun x => absurd rfl x⟩
  · obtain ⟨e', T', c⟩ := d1 t' ht'
    unfold DTh
    rw [xa_ac_lm_ne hne, xa_ac_nx_ne hne]
    refine ⟨e', dt_cg (by omega) ?_ (fun l hl ho' => ?_) (fun k hk hd => ?_) T', c⟩
    · rw [G0 _ (by omega) (by omega) (by omega) (by omega) (by omega) hne]
      exact q1 _ (by omega)
    · rw [G0 _ (by omega) (by omega) (by omega) (by omega) (by omega) (by omega), G0 _ (by omega) (by omega) (by omega) (by omega) (by omega) (by omega)]
      exact q2 l hl (by rw [ho']; exact hne)
    · have hkn : k ≠ n := fun x => hnd (x ▸ hd)
      refine ⟨?_, (dos k).mpr (Or.inr hd)⟩
      rw [G0 _ (by omega) (by omega) (by omega) (by omega) (by omega) (by omega)]
      exact q4 k hk hkn
  · rw [G0 _ (by omega) (by omega) (by omega) (by omega) (by omega) (by omega), (q2 l hl (by omega)).1]
    exact d2 l hl hol
  · rw [G0 _ (by omega) (by omega) (by omega) (by omega) (by omega) (by omega)]
    exact q6 m hm
  · by_cases ett : t' = t
    · subst ett
      exact Or.inr ⟨n, by omega, G13⟩
    · rw [G0 _ (by omega) (by omega) (by omega) (by omega) (by omega) (by omega), q8 _ (by omega)]
      exact d4 t' ht'
  · rw [G96, List.length_append]
    rfl
  · rw [List.length_append, r1]
    show p.length + 1 ≤ _
    omega
  · rw [List.length_append] at hi
    have hi' : i < p.length + 1 := hi
    by_cases ei : i = p.length
    · subst ei
      rw [G97, List.getD_eq_getElem?_getD, List.getElem?_append_right (Nat.le_refl _), Nat.sub_self]
      rfl
    · rw [G0 _ (by omega) (by omega) (by omega) (by omega) (by omega) (by omega), q8 _ (by omega), d7 i (by omega), List.getD_eq_getElem?_getD, List.getD_eq_getElem?_getD, List.getElem?_append_left (by omega)]
  · rw [lo _ (by omega) (by omega) (by omega) (by omega), ame]
    have : xa_vs (xa_ac (KP K) V 1 a t w) (as_me a c) = xa_vs a (as_me a c) := by unfold xa_vs; rw [awv]
    rw [this]
    exact m1 c hc
  · rw [lo _ (by omega) (by omega) (by omega) (by omega)]; exact m2 c hc
  · obtain ⟨qs, u1, u2, u3, u4⟩ := m3 t' ht'
    have len8 : qs.length ≤ 8 := q_len u2 (fun m hm => by
      have := (I.2.1 m (I.2.2.2.1 m ((u3 m).mp hm).1).1).1
      rw [kp_na Z] at this
      omega)
    refine ⟨qs, by rw [lo _ (by omega) (by omega) (by omega) (by omega)]; exact u1, u2, fun m => by rw [aqu]; exact u3 m, fun i hi => ?_⟩
    rw [lo _ (by omega) (by omega) (by omega) (by omega), lo _ (by omega) (by omega) (by omega) (by omega), awv]
    exact u4 i hi
  · rw [Gt, hr (by rw [a1, show (9 : Int32) = nI 9 from rfl, nI_eq (by omega) (by omega)]; omega)]
  · rw [G0 _ (by omega) (by omega) (by omega) (by omega) (by omega) (by omega)]
    exact q3 l hl hol
/-- acts in order 1: the action, and what comes at once behind it -/
theorem x_acts1 (P : PR F K te ow rx na nt sz V mo) (E : RE h s F 1 mo) (hd : d + 1 < 20) (I : xa_in (KP K) 1 a) (D : DR K te ow rx na nt sz 1 V (rowv h d) a p) (ht : t < nt) (he : xa_en (KP K) V a t) (hs : xa_se (KP K) V 1 a t w) (hnh : ¬ xa_hu (KP K) V 1 a t) :
    ∃ g' a' k, f_X11_acts 102 (nI d) (nI t) (-1) h = some (sR h (d + 1) g') ∧ DR K te ow rx na nt sz 1 V g' a' (p ++ [t]) ∧ hur (KP K) V t k (xa_ac (KP K) V 1 a t w) a' ∧ ¬ xa_hu (KP K) V 1 a' t := by
  have Z := P.1
  have W := kp_wf Z
  have hna := Z.1
  have hnt := Z.2.1
  have hsz := Z.2.2.1
  have hn : xa_nx a t < na := by have := he.2.1; rw [kp_na Z] at this; exact this
  have I' := xa_in_ac W I he hs
  have hp := p_len (dr_s D)
  have E1 : RE (sR h (d + 1) (rowv h d)) s F 1 mo := sR_re E
  have rw1 : ∀ k, k < 142 → rowv (sR h (d + 1) (rowv h d)) d k = rowv h d k := fun k hk => sR_ne (by omega) hk
  have D1 := dr_cg Z I rw1 D hp
  obtain ⟨set, s1⟩ := x_ahead1 P E1 (by omega) D1 ht
  obtain ⟨e, T, te6⟩ := D.1 t ht
  have e1 := T.2.1
  have rb := P.2.2.2.2.2.2.1 e (by omega)
  have h8 : K 8 (xa_nx a t) = nI e := by
    obtain ⟨-, c⟩ | c := te6
    · omega
    · exact c.2.2
  obtain ⟨e', op, b1, b2, b3, b4, b5, b6, b7, b8, b9, b10, b11, b12⟩ := an_f P hn
  have ee : e' = e := by rw [h8, nI_eq (by omega) (by omega)] at b2; exact b2.symm
  subst ee
  have rI := P.2.2.2.2.2.1 e' b1
  have hr := rI.2.1 (by rw [b3, show (9 : Int32) = nI 9 from rfl, nI_eq (by omega) (by omega)]; omega)
  have F0 : F (60 + 5 * rx e' + 0) = nI op := by
    have := hr.2
    rw [if_neg (by rw [b3, show (10 : Int32) = nI 10 from rfl, nI_eq (by omega) (by omega)]; omega)] at this
    rw [this, b3]
  obtain ⟨kf1, kf2, kf3, kf4⟩ := kp_f hsz b1 b2
  obtain ⟨-, op', a1, a2, a3, a4, a5, a6, a7, a8, a9, a10, -⟩ := Z.2.2.2.2.2.2.2.1 e' b1
  have eop : op' = op := by rw [b3, nI_eq (by omega) (by omega)] at a1; exact a1.symm
  subst eop
  have no15 : op' ≠ 1 ∧ op' ≠ 5 := by
    refine ⟨fun x => hnh ⟨he.1, he.2.1, Or.inr ⟨b8.trans x, Or.inl rfl⟩⟩, fun x => hnh ⟨he.1, he.2.1, Or.inl (b8.trans x)⟩⟩
  have pc := x_act0 (wI := -1) E hd (by omega) (by omega) T.1 s1
  have fin : ∀ (gP : Nat → Int32) (st : Int32), f_X11_acts 102 (nI d) (nI t) (-1) h = b_X11_acts_286 102 (nI d) (nI t) (nI (d + 1)) (nI (rx e')) (nI (xa_nx a t)) st (sR h (d + 1) gP) →
      (DRs K te ow rx na nt sz 1 V (fun t' => t' ≠ t) (actG gP (rowv h d) (xa_nx a t) t p.length (rx e') st) (xa_ac (KP K) V 1 a t w) (p ++ [t]) ∧ TR K te ow rx sz 1 (as_do (xa_ac (KP K) V 1 a t w)) (actG gP (rowv h d) (xa_nx a t) t p.length (rx e') st) t (xa_rd (KP K) (xa_lm a t) (xa_nx a t) w (xa_vs a w)) (e' + 1)) →
      ∃ g' a' k, f_X11_acts 102 (nI d) (nI t) (-1) h = some (sR h (d + 1) g') ∧ DR K te ow rx na nt sz 1 V g' a' (p ++ [t]) ∧ hur (KP K) V t k (xa_ac (KP K) V 1 a t w) a' ∧ ¬ xa_hu (KP K) V 1 a' t := fun gP st f1 ⟨f2, f3⟩ => by
    rw [f1, x_286 E hd (by omega) (by omega) hp D.2.2.2.2.1.1]
    have kc : pa_kc (KP K) (xa_nx a t) (xa_rd (KP K) (xa_lm a t) (xa_nx a t) w (xa_vs a w)) = w_go K 64 (xa_rd (KP K) (xa_lm a t) (xa_nx a t) w (xa_vs a w)) (e' + 1) := by
      show w_go K 64 _ (ix (K 8 (xa_nx a t)) + 1) = _
      rw [b2, ix_nI (by omega)]
    obtain ⟨g2, e2, fu2, y1, y2, y3, y4, -, y5, y6⟩ := dr_seg (fu := fu_) P E hd ht I' (fun _ h => h) f2 f3 (by rw [xa_ac_lm, kc]) (by rw [xa_ac_nx, kc]) (by decide)
    have hfu : fu_ = 200000 := rfl
    have := y5.2.1
    obtain ⟨g', a', k, z1, z2, z3, z4, -⟩ := dr_hur P E hd ht (fun _ h => h) 64 e2 fu2 g2 _ I' (by omega) (by omega) y4 y5 y6
    refine ⟨g', a', k, ?_, s_dr z2 (fun t' _ => by by_cases c : t' = t; exact Or.inr c; exact Or.inl c), z3, z4⟩
    unfold f_X11_settle b_X11_settle_0
    rw [y1, z1]
    rfl
  by_cases cr : op' = 0 ∨ op' = 2
  · obtain ⟨r1, r2, r3⟩ := rI.2.2.1 (by rw [b3]; obtain c | c := cr <;> rw [c]; exact Or.inl rfl; exact Or.inr rfl)
    obtain ⟨c, c6, c4⟩ := a6 (by omega)
    obtain ⟨l, l5, l1, lo⟩ := a8 (by omega)
    have hob : xa_ob (KP K) (xa_nx a t) = c := by rw [kf2, c4, ix_nI (by omega)]
    have htl : xa_tl (KP K) (xa_nx a t) = l := by rw [kf3, l1, ix_nI (by omega)]
    have hVc := P.2.2.2.2.2.2.2.1 c c6
    rw [b12] at r1
    rw [c4] at r2
    rw [l1] at r3
    obtain ⟨v1, v2⟩ := x_qv1 P E1 (by omega) I D1 ht c6 (by rw [b8]; exact cr) hob hs
    have fr := x_act66 (V := V) (set := set) (op := nI op') (v := xa_vs a w) (n := xa_nx a t) (k := rx e') (wI := -1) (w := 0) E hd (show t < 4 by omega) (by omega) (by omega) c6 l5 r3 hVc (Or.inl ⟨rfl, rfl⟩) (fun _ => v1) (fun x => absurd rfl x)
    have pc2 : f_X11_acts 102 (nI d) (nI t) (-1) h = b_X11_acts_66 102 (nI d) (nI t) (-1) (nI (d + 1)) (nI (rx e')) (nI op') (nI (xa_nx a t)) (nI c) set (sR h (d + 1) (rowv h d)) := by
      rw [pc, F0, r1, r2]
      obtain c | c := cr
      · rw [if_pos (by rw [c]; rfl)]
      · rw [if_neg (by rw [c]; decide)]
        unfold b_X11_acts_60
        rw [if_pos (by rw [c]; rfl)]
    rw [fr] at pc2
    refine fin _ _ pc2 (act_dr1 Z (fun x => (rI.2.1 x).1) I he D ht rfl b1 T.2.2.1 b2 (by rw [b8]; exact no15.1) (fun k hk => ?_) (fun l' hl' ho' => ?_) (fun l' hl' ho' => ?_) (fun k hk hkn => ?_) (fun k k1 k2 k3 k4 => ?_) (fun m hm => ?_) (fun k hk => ?_))
    · rw [up_ne (by omega), up_ne (by omega), up_ne (by omega)]
    · have hne : l' ≠ l := fun x => ho' (by rw [x, lo, T.2.2.1])
      rw [up_ne (by omega), up_ne (by omega), up_ne (by omega), up_ne (by omega), up_ne (by omega), up_ne (by omega)]
      exact ⟨rfl, rfl⟩
    · have erd : (xa_rd (KP K) (xa_lm a t) (xa_nx a t) w (xa_vs a w)).1 = up_1 (xa_lm a t).1 l (xa_vs a w) := by
        unfold xa_rd
        rw [if_pos (by rw [b8]; exact cr), htl]
      rw [erd]
      by_cases el : l' = l
      · subst el
        rw [up_ne (by omega), up_ne (by omega), up_same, up_same]
        exact ⟨rfl, v2⟩
      · rw [up_ne (by omega), up_ne (by omega), up_ne (by omega), up_ne el]
        exact T.2.2.2.1 l' hl' ho'
    · rw [up_ne (by omega), up_ne (by omega), up_ne (by omega)]
    · rw [up_ne (by omega), up_ne (by omega), up_ne (by omega)]
    · rw [up_ne (by omega), up_ne (by omega), up_ne (by omega), xa_ac_ho, if_neg (by rw [b8]; omega), if_neg (by rw [b8]; omega)]
      exact D.2.2.1 m hm
    · rw [up_ne (by omega), up_ne (by omega), up_ne (by omega)]
  · have o0 : ¬ F (60 + 5 * rx e' + 0) = 0 := by rw [F0, show (0 : Int32) = nI 0 from rfl, nI_eq (by omega) (by omega)]; omega
    have o2 : ¬ F (60 + 5 * rx e' + 0) = 2 := by rw [F0, show (2 : Int32) = nI 2 from rfl, nI_eq (by omega) (by omega)]; omega
    rw [if_neg o0] at pc
    unfold b_X11_acts_60 at pc
    rw [if_neg o2] at pc
    unfold b_X11_acts_184 at pc
    have o1 : ∀ G, ok_v (sR h (d + 1) G) 102 11 = some () := fun G => x_ok (sR_re E)
    have p1 : ∀ G (k : Nat) v, k < 142 → f_X11_put 102 (nI (d + 1)) (nI k) v (sR h (d + 1) G) = some (sR h (d + 1) (up_1 G k v)) := fun G k v hk => x_put E (by omega) hk
    rw [if_neg (by rw [F0, show (1 : Int32) = nI 1 from rfl, nI_eq (by omega) (by omega)]; exact no15.1)] at pc
    unfold b_X11_acts_247 at pc
    have c34 : op' = 3 ∨ op' = 4 := by omega
    obtain ⟨r1, r2⟩ := rI.2.2.2.2.2.1 (by rw [b3]; obtain c | c := c34 <;> rw [c]; exact Or.inl rfl; exact Or.inr rfl)
    obtain ⟨m, m6, m4'⟩ := a7 (by omega)
    have hob : xa_ob (KP K) (xa_nx a t) = m := by rw [kf2, m4', ix_nI (by omega)]
    rw [b12] at r1
    rw [m4'] at r2
    have pc2 : f_X11_acts 102 (nI d) (nI t) (-1) h = b_X11_acts_286 102 (nI d) (nI t) (nI (d + 1)) (nI (rx e')) (nI (xa_nx a t)) set (sR h (d + 1) (up_1 (rowv h d) (26 + m) (if op' = 3 then nI t else -1))) := by
      rw [pc, r1, r2]
      by_cases c3 : op' = 3
      · rw [if_pos (by rw [F0, c3]; rfl), if_pos c3]
        unfold b_X11_acts_253
        rw [o1, Option.bind_some, ad, p1 _ _ _ (by omega), Option.bind_some]
      · have c4 : op' = 4 := by omega
        rw [if_neg (by rw [F0, show (3 : Int32) = nI 3 from rfl, nI_eq (by omega) (by omega)]; exact c3), if_neg c3]
        unfold b_X11_acts_268
        rw [if_pos (by rw [F0, c4]; rfl)]
        unfold b_X11_acts_274
        rw [o1, Option.bind_some, ad, p1 _ _ _ (by omega), Option.bind_some]
    refine fin _ _ pc2 (act_dr1 Z (fun x => (rI.2.1 x).1) I he D ht rfl b1 T.2.2.1 b2 (by rw [b8]; exact no15.1) (fun k hk => ?_) (fun l' hl' ho' => ?_) (fun l' hl' ho' => ?_) (fun k hk hkn => ?_) (fun k k1 k2 k3 k4 => ?_) (fun m' hm' => ?_) (fun k hk => ?_))
    · rw [up_ne (by omega)]
    · rw [up_ne (by omega), up_ne (by omega)]; exact ⟨rfl, rfl⟩
    · rw [up_ne (by omega), rd_ne (by rw [b8]; exact cr)]
      exact T.2.2.2.1 l' hl' ho'
    · rw [up_ne (by omega)]
    · rw [up_ne (by omega)]
    · rw [xa_ac_ho, b8, hob]
      by_cases em : m' = m
      · subst em
        rw [up_same]
        by_cases c3 : op' = 3
        · rw [if_pos c3, if_pos c3, up_same]
          exact Or.inr ⟨t, ht, rfl, rfl⟩
        · rw [if_neg c3, if_neg c3, if_pos (by omega), up_same]
          exact Or.inl ⟨rfl, rfl⟩
      · rw [up_ne (by omega)]
        have := D.2.2.1 m' hm'
        split
        · rw [up_ne em]; exact this
        · split
          · rw [up_ne em]; exact this
          · exact this
    · rw [up_ne (by omega)]
end
