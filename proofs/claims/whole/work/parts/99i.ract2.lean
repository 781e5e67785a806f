/-! ===== the reference's acts does what an action of the mid picture does (orders 0 and 2) ===== -/
section
variable {h H : AH} {d s o t w : Nat} {F : Nat → Int32} {mo wI : Int32} {K : Nat → Nat → Int32} {te ow rx : Nat → Nat} {na nt sz : Nat} {V : Nat → Bool} {a : AS} {p : List Nat}
theorem o_2 {o : Nat} (h1 : o ≤ 2) (h2 : o ≠ 1) (h3 : ¬ o = 0) : o = 2 := by omega
theorem rd_ne {P : PA} {lm : LM} {n : Nat} {v : Int32} (h : ¬ (xa_op P n = 0 ∨ xa_op P n = 2)) : xa_rd P lm n w v = lm := if_neg h
theorem src_mono {g g' : Nat → Int32} {dn dn' : Nat → Prop} {lm : LM} {l : Nat} (h1 : g' (9 + l) = g (9 + l)) (h2 : ∀ n, n < 8 → dn n → g' (113 + n) = g (113 + n) ∧ dn' n) (S : srcR g dn lm l) : srcR g' dn' lm l := by
  obtain ⟨q1, q2⟩ | ⟨n, q1, q2, q3, q4⟩ := S
  · left; rw [h1]; exact ⟨q1, q2⟩
  · right; exact ⟨n, q1, (h2 n q1 q2).2, by rw [h1]; exact q3, by rw [(h2 n q1 q2).1]; exact q4⟩
theorem x_acts (P : PR F K te ow rx na nt sz V mo) (E : RE h s F o mo) (hd : d + 1 < 20) (ho : o ≠ 1) (I : xa_in (KP K) o a) (X : xa_t (KP K) a) (D : DR K te ow rx na nt sz o V (rowv h d) a p) (ht : t < nt) (he : xa_en (KP K) V a t) (hs : xa_se (KP K) V o a t w) (hw : wR wI w) :
    ∃ g', f_X11_acts 102 (nI d) (nI t) wI h = some (sR h (d + 1) g') ∧ DR K te ow rx na nt sz o V g' (xa_ac (KP K) V o a t w) (p ++ [t]) := by
  have Z := P.1
  have W := kp_wf Z
  have hna := Z.1
  have hnt := Z.2.1
  have hsz := Z.2.2.1
  have hn : xa_nx a t < na := by have := he.2.1; rw [kp_na Z] at this; exact this
  have I' := xa_in_ac W I he hs
  have hp := p_len (dr_s D)
  have E1 : RE (sR h (d + 1) (rowv h d)) s F o mo := sR_re E
  have rw1 : ∀ k, k < 142 → rowv (sR h (d + 1) (rowv h d)) d k = rowv h d k := fun k hk => sR_ne (by omega) hk
  have D1 := dr_cg Z I rw1 D hp
  obtain ⟨set, s1, s2⟩ := x_ahead P E1 (by omega) I X D1 ht hn ho
  obtain ⟨e, T, te6⟩ := D.1 t ht
  have e1 := T.2.1
  have rb := P.2.2.2.2.2.2.1 e (by omega)
  have h8 : K 8 (xa_nx a t) = nI e := by
    obtain ⟨-, c⟩ | c := te6
    · omega
    · exact c.2.2
  obtain ⟨e', op, b1, b2, b3, b4, b5, b6, b7, b8, b9, b10, b11, b12⟩ := an_f P hn
  have ee : e' = e := by rw [h8, nI_eq (by omega) (by omega)] at b2; exact b2.symm
  subst ee
  have rI := P.2.2.2.2.2.1 e' b1
  have hr := rI.2.1 (by rw [b3, show (9 : Int32) = nI 9 from rfl, nI_eq (by omega) (by omega)]; omega)
  have F0 : F (60 + 5 * rx e' + 0) = nI op := by
    have := hr.2
    rw [if_neg (by rw [b3, show (10 : Int32) = nI 10 from rfl, nI_eq (by omega) (by omega)]; omega)] at this
    rw [this, b3]
  obtain ⟨kf1, kf2, kf3, kf4⟩ := kp_f hsz b1 b2
  obtain ⟨-, op', a1, a2, a3, a4, a5, a6, a7, a8, a9, a10, -⟩ := Z.2.2.2.2.2.2.2.1 e' b1
  have eop : op' = op := by rw [b3, nI_eq (by omega) (by omega)] at a1; exact a1.symm
  subst eop
  obtain ⟨m1, m2, m3, m4, m5⟩ := D.2.2.2.2.2.1 ho
  have hnd := xa_nx_nd W I he.1 he.2.1
  have dos : ∀ k, as_do (xa_ac (KP K) V o a t w) k ↔ k = xa_nx a t ∨ as_do a k := fun k => by rw [xa_ac_do, up_true]
  have pc := x_act0 (wI := wI) E hd (by omega) (by omega) T.1 s1
  -- all cases end so
  have fin : ∀ (gP : Nat → Int32) (st : Int32), f_X11_acts 102 (nI d) (nI t) wI h = b_X11_acts_286 102 (nI d) (nI t) (nI (d + 1)) (nI (rx e')) (nI (xa_nx a t)) st (sR h (d + 1) gP) →
      (DRs K te ow rx na nt sz o V (fun t' => t' ≠ t) (actG gP (rowv h d) (xa_nx a t) t p.length (rx e') st) (xa_ac (KP K) V o a t w) (p ++ [t]) ∧ TR K te ow rx sz o (as_do (xa_ac (KP K) V o a t w)) (actG gP (rowv h d) (xa_nx a t) t p.length (rx e') st) t (xa_rd (KP K) (xa_lm a t) (xa_nx a t) w (xa_vs a w)) (e' + 1)) →
      ∃ g', f_X11_acts 102 (nI d) (nI t) wI h = some (sR h (d + 1) g') ∧ DR K te ow rx na nt sz o V g' (xa_ac (KP K) V o a t w) (p ++ [t]) := fun gP st f1 ⟨f2, f3⟩ => by
    rw [f1, x_286 E hd (by omega) (by omega) hp D.2.2.2.2.1.1]
    obtain ⟨g', y1, y2⟩ := act_se P E hd ho I' ht rfl b2 b1 f2 f3
    rw [y1, Option.bind_some]
    exact ⟨g', rfl, y2⟩
  -- what a step that is no read leaves of the locals
  have q3n : ∀ gP : Nat → Int32, ¬ (op' = 0 ∨ op' = 2) → (∀ l, l < 5 → gP (4 + l) = rowv h d (4 + l) ∧ gP (9 + l) = rowv h d (9 + l)) → (∀ k, k < 8 → gP (113 + k) = rowv h d (113 + k)) → ∀ l, l < 5 → ow l = t → gP (4 + l) = (xa_rd (KP K) (xa_lm a t) (xa_nx a t) w (xa_vs a w)).1 l ∧ (∃ v, v ≤ 9 ∧ (xa_rd (KP K) (xa_lm a t) (xa_nx a t) w (xa_vs a w)).1 l = nI v) ∧ srcR gP (as_do (xa_ac (KP K) V o a t w)) (xa_rd (KP K) (xa_lm a t) (xa_nx a t) w (xa_vs a w)) l := fun gP hno hg1 hg2 l hl hol => by
    rw [rd_ne (by rw [b8]; exact hno)]
    rw [(hg1 l hl).1]
    refine ⟨(T.2.2.2.1 l hl hol).1, (T.2.2.2.1 l hl hol).2, ?_⟩
    exact src_mono (hg1 l hl).2 (fun n hn hd => ⟨hg2 n hn, (dos n).mpr (Or.inr hd)⟩) (T.2.2.2.2 ho l hl hol)
  have w0 : ¬ (op' = 0 ∨ op' = 2) → w = 0 := fun hno => by
    unfold xa_se at hs
    rw [if_neg (by rw [b8]; exact hno)] at hs
    exact hs
  have s0 : ¬ (op' = 0 ∨ op' = 2) → mk8 set (xa_ah (KP K) V o a t (xa_nx a t) w) := fun hno => by rw [w0 hno]; exact s2
  have me' : ¬ op' = 1 → as_me (xa_ac (KP K) V o a t w) = as_me a := fun hno => by
    rw [xa_ac_me, if_neg (fun x => hno (by rw [← b8]; exact x.1))]
  have ho' : ¬ op' = 3 → ¬ op' = 4 → as_ho (xa_ac (KP K) V o a t w) = as_ho a := fun n3 n4 => by
    rw [xa_ac_ho, if_neg (fun x => n3 (by rw [← b8]; exact x)), if_neg (fun x => n4 (by rw [← b8]; exact x))]
  have wv' : ¬ op' = 1 → as_wv (xa_ac (KP K) V o a t w) = as_wv a := fun hno => by
    rw [xa_ac_wv, if_neg (fun x => hno (by rw [← b8]; exact x))]
  have q7n : ∀ gP : Nat → Int32, ¬ op' = 1 → (∀ k, k < 8 → gP (121 + k) = rowv h d (121 + k)) → ∀ k, k < 8 → as_do (xa_ac (KP K) V o a t w) k → xa_op (KP K) k = 1 → gP (121 + k) = as_wv (xa_ac (KP K) V o a t w) k ∧ ∃ v, v ≤ 9 ∧ as_wv (xa_ac (KP K) V o a t w) k = nI v := fun gP hno hg k hk hdk hok => by
    rw [wv' hno, hg k hk]
    obtain rfl | hdk := (dos k).mp hdk
    · rw [b8] at hok; exact absurd hok hno
    · exact m3 k hk hdk hok
  by_cases cr : op' = 0 ∨ op' = 2
  · -- a read
    obtain ⟨r1, r2, r3⟩ := rI.2.2.1 (by rw [b3]; obtain c | c := cr <;> rw [c]; exact Or.inl rfl; exact Or.inr rfl)
    obtain ⟨c, c6, c4⟩ := a6 (by omega)
    obtain ⟨l, l5, l1, lo⟩ := a8 (by omega)
    have hob : xa_ob (KP K) (xa_nx a t) = c := by rw [kf2, c4, ix_nI (by omega)]
    have htl : xa_tl (KP K) (xa_nx a t) = l := by rw [kf3, l1, ix_nI (by omega)]
    have hVc := P.2.2.2.2.2.2.2.1 c c6
    rw [b12] at r1
    rw [c4] at r2
    rw [l1] at r3
    have hsd : ∀ m, w = m + 1 → as_do a m ∧ xa_op (KP K) m = 1 := fun m hm => by
      have := xa_se_do I (hm ▸ hs)
      exact ⟨this.1, this.2.1.1⟩
    have vv : (if wI = -1 then 0 else rowv h d (121 + ix wI)) = xa_vs a w ∧ ∃ v, v ≤ 9 ∧ xa_vs a w = nI v := by
      obtain ⟨y1, y2⟩ | ⟨m, y1, y2, y3⟩ := hw
      · rw [if_pos y2, y1]
        exact ⟨rfl, 0, by omega, rfl⟩
      · rw [if_neg (by rw [y3]; exact nI_ne1 (by omega)), y3, ix_nI (by omega), y2]
        have := m3 m y1 (hsd m y2).1 (hsd m y2).2
        exact this
    have fr := x_act66 (V := V) (set := set) (op := nI op') (v := if wI = -1 then 0 else rowv h d (121 + ix wI)) (n := xa_nx a t) (k := rx e') E hd (show t < 4 by omega) (by omega) (by omega) c6 l5 r3 hVc hw (fun x => absurd x ho) (fun _ => rfl)
    have pc2 : f_X11_acts 102 (nI d) (nI t) wI h = b_X11_acts_66 102 (nI d) (nI t) wI (nI (d + 1)) (nI (rx e')) (nI op') (nI (xa_nx a t)) (nI c) set (sR h (d + 1) (rowv h d)) := by
      rw [pc, F0, r1, r2]
      obtain c | c := cr
      · rw [if_pos (by rw [c]; rfl)]
      · rw [if_neg (by rw [c]; decide)]
        unfold b_X11_acts_60
        rw [if_pos (by rw [c]; rfl)]
    rw [fr, vv.1] at pc2
    refine fin _ _ pc2 (act_dr Z ho (fun x => (rI.2.1 x).1) I he D ht rfl b1 T.2.2.1 b2 (fun k hk => ?_) (fun l' hl' ho' => ?_) (fun l' hl' ho' => ?_) (fun k hk hkn => ?_) (fun c' hc' hv => ?_) (fun m hm => ?_) (q7n _ (by omega) (fun k hk => ?_)) (fun k hk => ?_) ?_)
    · rw [up_ne (by omega), up_ne (by omega), up_ne (by omega)]
    · have hne : l' ≠ l := fun x => ho' (by rw [x, lo, T.2.2.1])
      rw [up_ne (by omega), up_ne (by omega), up_ne (by omega), up_ne (by omega), up_ne (by omega), up_ne (by omega)]
      exact ⟨rfl, rfl⟩
    · have erd : xa_rd (KP K) (xa_lm a t) (xa_nx a t) w (xa_vs a w) = (up_1 (xa_lm a t).1 l (xa_vs a w), up_1 (xa_lm a t).2 l (if op' = 0 then w else 0)) := by
        unfold xa_rd
        rw [if_pos (by rw [b8]; exact cr), htl, b8]
      rw [erd]
      have o0 : nI op' = 0 ↔ op' = 0 := by rw [show (0 : Int32) = nI 0 from rfl, nI_eq (by omega) (by omega)]
      by_cases el : l' = l
      · subst el
        rw [up_ne (by omega), up_ne (by omega), up_same]
        show _ = up_1 (xa_lm a t).1 l' (xa_vs a w) l' ∧ (∃ v, v ≤ 9 ∧ up_1 (xa_lm a t).1 l' (xa_vs a w) l' = nI v) ∧ _
        rw [up_same]
        refine ⟨rfl, vv.2, ?_⟩
        unfold srcR
        show (_ ∧ up_1 (xa_lm a t).2 l' (if op' = 0 then w else 0) l' = 0) ∨ ∃ n, n < 8 ∧ _ ∧ _ ∧ wR _ (up_1 (xa_lm a t).2 l' (if op' = 0 then w else 0) l')
        rw [up_same]
        by_cases c0 : op' = 0
        · right
          refine ⟨xa_nx a t, by omega, (dos _).mpr (Or.inl rfl), ?_, ?_⟩
          · rw [up_ne (by omega), up_same, if_pos (o0.mpr c0)]
          · rw [up_same, if_pos c0]; exact hw
        · left
          rw [up_ne (by omega), up_same, if_neg (fun x => c0 (o0.mp x)), if_neg c0]
          exact ⟨rfl, rfl⟩
      · rw [up_ne (by omega), up_ne (by omega), up_ne (by omega)]
        show _ = up_1 (xa_lm a t).1 l (xa_vs a w) l' ∧ (∃ v, v ≤ 9 ∧ up_1 (xa_lm a t).1 l (xa_vs a w) l' = nI v) ∧ _
        rw [up_ne el]
        refine ⟨(T.2.2.2.1 l' hl' ho').1, (T.2.2.2.1 l' hl' ho').2, ?_⟩
        have S := T.2.2.2.2 ho l' hl' ho'
        unfold srcR
        show (_ ∧ up_1 (xa_lm a t).2 l (if op' = 0 then w else 0) l' = 0) ∨ ∃ n, n < 8 ∧ _ ∧ _ ∧ wR _ (up_1 (xa_lm a t).2 l (if op' = 0 then w else 0) l')
        rw [up_ne el]
        obtain ⟨y1, y2⟩ | ⟨k, y1, y2, y3, y4⟩ := S
        · left
          rw [up_ne (by omega), up_ne (by omega), up_ne (by omega)]
          exact ⟨y1, y2⟩
        · right
          have hkn : k ≠ xa_nx a t := fun x => hnd (x ▸ y2)
          refine ⟨k, y1, (dos k).mpr (Or.inr y2), ?_, ?_⟩
          · rw [up_ne (by omega), up_ne (by omega), up_ne (by omega)]; exact y3
          · rw [up_ne (by omega), up_ne (by omega), up_ne (by omega)]; exact y4
    · rw [up_ne (by omega), up_ne (by omega), up_ne (by omega)]
    · rw [up_ne (by omega), up_ne (by omega), up_ne (by omega), me' (by omega)]
      exact m1 c' hc' hv
    · rw [up_ne (by omega), up_ne (by omega), up_ne (by omega), ho' (by omega) (by omega)]
      exact D.2.2.1 m hm
    · rw [up_ne (by omega), up_ne (by omega), up_ne (by omega)]
    · rw [up_ne (by omega), up_ne (by omega), up_ne (by omega)]
    · by_cases cv : V c = true ∧ ¬ wI = -1
      · rw [if_pos cv]
        obtain ⟨y1, y2⟩ | ⟨m, y1, y2, y3⟩ := hw
        · exact absurd y2 cv.2
        · rw [y3, ix_nI (by omega)]
          have c0 : op' = 0 := by
            obtain cz | cz := cr
            · exact cz
            · have := P.2.2.2.2.2.2.2.2.2.1 e' c b1 (by rw [b3, cz]; rfl) c6 c4
              rw [cv.1] at this
              cases this
          refine mk8_cg (fun k _ => ?_) (mk8_or s2 (mk8_or (m2 m y1) (mk8_1 y1)))
          rw [ah_w (w := w), b8, hob]
          refine or_congr_right ?_
          constructor
          · rintro (z | z)
            · exact ⟨c0, cv.1, m, y2, Or.inr z⟩
            · exact ⟨c0, cv.1, m, y2, Or.inl z⟩
          · rintro ⟨-, -, m', z1, z2⟩
            obtain rfl : m' = m := by omega
            exact z2.symm
      · rw [if_neg cv]
        refine mk8_cg (fun k _ => ?_) s2
        rw [ah_w (w := w), hob]
        refine ⟨Or.inl, fun x => x.elim id ?_⟩
        rintro ⟨-, z1, m, z2, -⟩
        exfalso
        apply cv
        refine ⟨z1, ?_⟩
        obtain ⟨y1, y2⟩ | ⟨m', y1, y2, y3⟩ := hw
        · omega
        · rw [y3]; exact nI_ne1 (by omega)
  · have z0 := w0 cr
    have sz0 := s0 cr
    have o0 : ¬ F (60 + 5 * rx e' + 0) = 0 := by rw [F0, show (0 : Int32) = nI 0 from rfl, nI_eq (by omega) (by omega)]; omega
    have o2 : ¬ F (60 + 5 * rx e' + 0) = 2 := by rw [F0, show (2 : Int32) = nI 2 from rfl, nI_eq (by omega) (by omega)]; omega
    rw [if_neg o0] at pc
    unfold b_X11_acts_60 at pc
    rw [if_neg o2] at pc
    unfold b_X11_acts_184 at pc
    have o1 : ∀ G, ok_v (sR h (d + 1) G) 102 11 = some () := fun G => x_ok (sR_re E)
    have p1 : ∀ G (k : Nat) v, k < 142 → f_X11_put 102 (nI (d + 1)) (nI k) v (sR h (d + 1) G) = some (sR h (d + 1) (up_1 G k v)) := fun G k v hk => x_put E (by omega) hk
    by_cases c1 : op' = 1
    · -- a write
      obtain ⟨r1, r2, b, l, hb, hl, r3, Xr⟩ := rI.2.2.2.2.1 (by rw [b3, c1]; rfl)
      obtain ⟨c, c6, c4⟩ := a6 (by omega)
      have hob : xa_ob (KP K) (xa_nx a t) = c := by rw [kf2, c4, ix_nI (by omega)]
      rw [b12] at r1
      rw [c4] at r2
      have hbl : b = 1 → ow l = t := fun hb1 => by
        obtain ⟨cc, -, -, ⟨x, -, -⟩ | ⟨-, x, -⟩⟩ := Xr
        · omega
        · obtain ⟨y | ⟨b', y1, y2, y3⟩, -⟩ := a10 (Or.inl c1)
          · rw [x] at y; exact absurd y (nI_ne1 (by omega))
          · rw [x, nI_eq (by omega) (by omega)] at y2
            rw [y2, y3, T.2.2.1]
      obtain ⟨v, v9, x1, x2⟩ := x_wo (d := d) (H := sR h (d + 1) (rowv h d)) (lm := xa_lm a t) E1 (by omega) hl hb Xr (fun hb1 => by
        rw [rw1 _ (by omega)]
        exact T.2.2.2.1 l hl (hbl hb1))
      have ws : pa_ws (KP K) (xa_nx a t) (xa_lm a t) = nI v := by
        show w_su K (xa_lm a t) (ix (K 8 (xa_nx a t))) = nI v
        rw [b2, ix_nI (by omega)]
        exact x2
      have i3 : f_X11_instr 102 (nI (rx e')) (3 : Int32) (sR h (d + 1) (rowv h d)) = some (nI (2 * l + b), sR h (d + 1) (rowv h d)) := by rw [← r3]; exact x_ins (k := 3) E1 (by omega)
      have i4 : f_X11_instr 102 (nI (rx e')) (4 : Int32) (sR h (d + 1) (rowv h d)) = some (F (60 + 5 * rx e' + 4), sR h (d + 1) (rowv h d)) := x_ins (k := 4) E1 (by omega)
      have dm : ∀ b, b < 2 → ∀ l, l < 5 → rm_i (nI (2 * l + b)) 2 = some (nI b) ∧ dv_i (nI (2 * l + b)) 2 = some (nI l) := by decide
      have pc2 : f_X11_acts 102 (nI d) (nI t) wI h = b_X11_acts_286 102 (nI d) (nI t) (nI (d + 1)) (nI (rx e')) (nI (xa_nx a t)) set (sR h (d + 1) (up_1 (up_1 (rowv h d) (121 + xa_nx a t) (nI v)) (20 + c) (nI (xa_nx a t)))) := by
        rw [pc, if_pos (by rw [F0, c1]; rfl), r1, r2]
        unfold b_X11_acts_190
        rw [o1, Option.bind_some, i3, Option.bind_some, (dm b hb l hl).1, Option.bind_some, o1, Option.bind_some, i3, Option.bind_some, (dm b hb l hl).2, Option.bind_some, o1, Option.bind_some, i4, Option.bind_some, o1, Option.bind_some, x1, Option.bind_some, o1, Option.bind_some, ad, p1 _ _ _ (by omega), Option.bind_some, o1, Option.bind_some, ad, p1 _ _ _ (by omega), Option.bind_some]
      have wv1 : as_wv (xa_ac (KP K) V o a t w) = up_1 (as_wv a) (xa_nx a t) (nI v) := by rw [xa_ac_wv, if_pos (b8.trans c1), ws]
      refine fin _ _ pc2 (act_dr Z ho (fun x => (rI.2.1 x).1) I he D ht rfl b1 T.2.2.1 b2 (fun k hk => ?_) (fun l' hl' ho' => ?_) (q3n _ cr (fun l' hl' => ?_) (fun k hk => ?_)) (fun k hk hkn => ?_) (fun c' hc' hv => ?_) (fun m hm => ?_) (fun k hk hdk hok => ?_) (fun k hk => ?_) sz0)
      · rw [up_ne (by omega), up_ne (by omega)]
      · rw [up_ne (by omega), up_ne (by omega), up_ne (by omega), up_ne (by omega)]; exact ⟨rfl, rfl⟩
      · rw [up_ne (by omega), up_ne (by omega), up_ne (by omega), up_ne (by omega)]; exact ⟨rfl, rfl⟩
      · rw [up_ne (by omega), up_ne (by omega)]
      · rw [up_ne (by omega), up_ne (by omega)]
      · rw [xa_ac_me, b8, hob]
        by_cases ec : c' = c
        · subst ec
          have ho2 := E.2.2.1
          have oo : o = 0 ∨ (o = 2 ∧ V c' = true) := by
            obtain x | x := hv
            · exact Or.inl x
            · by_cases y : o = 0
              · exact Or.inl y
              · exact Or.inr ⟨o_2 ho2 ho y, x⟩
          rw [up_same, if_pos ⟨c1, oo⟩, up_same]
          exact Or.inr ⟨xa_nx a t, by omega, rfl, rfl⟩
        · rw [up_ne (by omega), up_ne (by omega)]
          split
          · rw [up_ne ec]; exact m1 c' hc' hv
          · exact m1 c' hc' hv
      · rw [up_ne (by omega), up_ne (by omega), ho' (by omega) (by omega)]
        exact D.2.2.1 m hm
      · rw [wv1]
        by_cases ek : k = xa_nx a t
        · subst ek
          rw [up_ne (by omega), up_same, up_same]
          exact ⟨rfl, v, v9, rfl⟩
        · rw [up_ne (by omega), up_ne (by omega), up_ne ek]
          obtain x | x := (dos k).mp hdk
          · exact absurd x ek
          · exact m3 k hk x hok
      · rw [up_ne (by omega), up_ne (by omega)]
    · rw [if_neg (by rw [F0, show (1 : Int32) = nI 1 from rfl, nI_eq (by omega) (by omega)]; exact c1)] at pc
      unfold b_X11_acts_247 at pc
      by_cases c34 : op' = 3 ∨ op' = 4
      · obtain ⟨r1, r2⟩ := rI.2.2.2.2.2.1 (by rw [b3]; obtain c | c := c34 <;> rw [c]; exact Or.inl rfl; exact Or.inr rfl)
        obtain ⟨m, m6, m4'⟩ := a7 (by omega)
        have hob : xa_ob (KP K) (xa_nx a t) = m := by rw [kf2, m4', ix_nI (by omega)]
        rw [b12] at r1
        rw [m4'] at r2
        have pc2 : f_X11_acts 102 (nI d) (nI t) wI h = b_X11_acts_286 102 (nI d) (nI t) (nI (d + 1)) (nI (rx e')) (nI (xa_nx a t)) set (sR h (d + 1) (up_1 (rowv h d) (26 + m) (if op' = 3 then nI t else -1))) := by
          rw [pc, r1, r2]
          by_cases c3 : op' = 3
          · rw [if_pos (by rw [F0, c3]; rfl), if_pos c3]
            unfold b_X11_acts_253
            rw [o1, Option.bind_some, ad, p1 _ _ _ (by omega), Option.bind_some]
          · have c4 : op' = 4 := by omega
            rw [if_neg (by rw [F0, show (3 : Int32) = nI 3 from rfl, nI_eq (by omega) (by omega)]; exact c3), if_neg c3]
            unfold b_X11_acts_268
            rw [if_pos (by rw [F0, c4]; rfl)]
            unfold b_X11_acts_274
            rw [o1, Option.bind_some, ad, p1 _ _ _ (by omega), Option.bind_some]
        refine fin _ _ pc2 (act_dr Z ho (fun x => (rI.2.1 x).1) I he D ht rfl b1 T.2.2.1 b2 (fun k hk => ?_) (fun l' hl' ho' => ?_) (q3n _ cr (fun l' hl' => ?_) (fun k hk => ?_)) (fun k hk hkn => ?_) (fun c' hc' hv => ?_) (fun m' hm' => ?_) (q7n _ c1 (fun k hk => ?_)) (fun k hk => ?_) sz0)
        · rw [up_ne (by omega)]
        · rw [up_ne (by omega), up_ne (by omega)]; exact ⟨rfl, rfl⟩
        · rw [up_ne (by omega), up_ne (by omega)]; exact ⟨rfl, rfl⟩
        · rw [up_ne (by omega)]
        · rw [up_ne (by omega)]
        · rw [up_ne (by omega), me' c1]; exact m1 c' hc' hv
        · rw [xa_ac_ho, b8, hob]
          by_cases em : m' = m
          · subst em
            rw [up_same]
            by_cases c3 : op' = 3
            · rw [if_pos c3, if_pos c3, up_same]
              exact Or.inr ⟨t, ht, rfl, rfl⟩
            · rw [if_neg c3, if_neg c3, if_pos (by omega), up_same]
              exact Or.inl ⟨rfl, rfl⟩
          · rw [up_ne (by omega)]
            have := D.2.2.1 m' hm'
            split
            · rw [up_ne em]; exact this
            · split
              · rw [up_ne em]; exact this
              · exact this
        · rw [up_ne (by omega)]
        · rw [up_ne (by omega)]
      · have c5 : op' = 5 := by omega
        have r1 := rI.2.2.2.2.2.2.1 (by rw [b3, c5]; rfl)
        rw [b12] at r1
        have pc2 : f_X11_acts 102 (nI d) (nI t) wI h = b_X11_acts_286 102 (nI d) (nI t) (nI (d + 1)) (nI (rx e')) (nI (xa_nx a t)) set (sR h (d + 1) (rowv h d)) := by
          rw [pc, r1, if_neg (by rw [F0, c5]; decide)]
          unfold b_X11_acts_268
          rw [if_neg (by rw [F0, c5]; decide)]
        refine fin _ _ pc2 (act_dr Z ho (fun x => (rI.2.1 x).1) I he D ht rfl b1 T.2.2.1 b2 (fun k hk => rfl) (fun l' hl' ho' => ⟨rfl, rfl⟩) (q3n _ cr (fun l' hl' => ⟨rfl, rfl⟩) (fun k hk => rfl)) (fun k hk hkn => rfl) (fun c' hc' hv => ?_) (fun m' hm' => ?_) (q7n _ c1 (fun k hk => rfl)) (fun k hk => rfl) sz0)
        · rw [me' c1]; exact m1 c' hc' hv
        · rw [ho' (by omega) (by omega)]; exact D.2.2.1 m' hm'
end
