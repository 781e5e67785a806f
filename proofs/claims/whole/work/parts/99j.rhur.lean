/-! ===== order 1: settle puts writes into the queue at once ===== -/
/-- k steps of thread t that may be done at once -/
def hur (P : PA) (V : Nat → Bool) (t : Nat) : Nat → AS → AS → Prop
  | 0, s, s' => s = s'
  | k + 1, s, s' => xa_hu P V 1 s t ∧ hur P V t k (xa_ac P V 1 s t 0) s'
section
variable {h H : AH} {d s t w : Nat} {g F : Nat → Int32} {mo wI : Int32} {K : Nat → Nat → Int32} {te ow rx : Nat → Nat} {na nt sz : Nat} {V : Nat → Bool} {a : AS} {p : List Nat} {S : Nat → Prop}
theorem hur_in {P : PA} (W : xa_wf P) : ∀ k a a', xa_in P 1 a → hur P V t k a a' → xa_in P 1 a' ∧ (∀ t', t' ≠ t → as_th a' t' = as_th a t') ∧ ∃ q, xa_ph P V 1 q a a' := by
  intro k
  induction k with
  | zero => intro a a' I h; cases h; exact ⟨I, fun _ _ => rfl, [], rfl⟩
  | succ k ih =>
    intro a a' I h
    have I1 := xa_in_ac W I (xa_hu_en h.1) (xa_hu_se h.1)
    obtain ⟨x1, x2, q, x3⟩ := ih _ _ I1 h.2
    refine ⟨x1, fun t' ht' => ?_, (t, 0) :: q, Or.inl ⟨by show 0 < 10; omega, xa_hu_en h.1, xa_hu_se h.1, x3⟩⟩
    rw [x2 t' ht', xa_ac_th, up_ne ht']
theorem hur_t {P : PA} (W : xa_wf P) : ∀ k a a', xa_in P 1 a → xa_t P a → hur P V t k a a' → xa_t P a' := by
  intro k
  induction k with
  | zero => intro a a' I X h; cases h; exact X
  | succ k ih =>
    intro a a' I X h
    exact ih _ _ (xa_in_ac W I (xa_hu_en h.1) (xa_hu_se h.1)) (xa_t_ac W I X (xa_hu_en h.1) (xa_hu_se h.1)) h.2
theorem hur_rk {P : PA} (W : xa_wf P) : ∀ k a a', xa_in P 1 a → hur P V t k a a' → rka P 1 a ≤ rka P 1 a' ∧ rkd a ≤ rkd a' := by
  intro k
  induction k with
  | zero => intro a a' I h; cases h; exact ⟨Nat.le_refl _, Nat.le_refl _⟩
  | succ k ih =>
    intro a a' I h
    have := ih _ _ (xa_in_ac W I (xa_hu_en h.1) (xa_hu_se h.1)) h.2
    have := rka_ac (w := 0) W I (xa_hu_en h.1)
    omega
theorem hur_por {P : PA} (W : xa_wf P) : ∀ k a a', xa_in P 1 a → hur P V t k a a' → ∀ q z, xa_ph P V 1 q a z → xa_end P V z → ∃ q', xa_ph P V 1 q' a' z := by
  intro k
  induction k with
  | zero => intro a a' I h q z hq _; cases h; exact ⟨q, hq⟩
  | succ k ih =>
    intro a a' I h q z hq hz
    obtain ⟨q', hq'⟩ := xa_por W q a z I h.1 hq hz
    exact ih _ _ (xa_in_ac W I (xa_hu_en h.1) (xa_hu_se h.1)) h.2 q' z hq' hz
/-- one turn of settle for a write or done in order 1 -/
theorem se_1 {e f : Nat} (P : PR F K te ow rx na nt sz V mo) (E : RE h s F 1 mo) (hd : d < 20) (ht : t < nt) (I : xa_in (KP K) 1 a) (hS : ∀ t', S t' → t' ≠ t) (D : DRs K te ow rx na nt sz 1 V S g a p) (T : TR K te ow rx sz 1 (as_do a) g t (xa_lm a t) e) (hn : xa_nx a t < na) (h8 : K 8 (xa_nx a t) = nI e) (hop : xa_op (KP K) (xa_nx a t) = 1 ∨ xa_op (KP K) (xa_nx a t) = 5) :
    ∃ g1, l_X11_settle_2 (f + 1) 102 (nI d) (nI t) 1 (sR h d g) = l_X11_settle_2 f 102 (nI d) (nI t) 1 (sR h d g1) ∧ DRs K te ow rx na nt sz 1 V S g1 (xa_ac (KP K) V 1 a t 0) p ∧ TR K te ow rx sz 1 (as_do (xa_ac (KP K) V 1 a t 0)) g1 t (xa_lm a t) (e + 1) ∧ ∀ k, k < 28 → k ≠ t → g1 k = g k := by
  have Z := P.1
  have W := kp_wf Z
  have hna := Z.1
  have hnt := Z.2.1
  have hsz := Z.2.2.1
  have e1 := T.2.1
  have hhu : xa_hu (KP K) V 1 a t := ⟨by rw [kp_nt Z]; exact ht, by rw [kp_na Z]; exact hn, by obtain c | c := hop; exact Or.inr ⟨c, Or.inl rfl⟩; exact Or.inl c⟩
  have he := xa_hu_en hhu
  obtain ⟨r1, r2, r3⟩ := rka_ac (w := 0) W I he
  have hnd := xa_nx_nd W I he.1 he.2.1
  have hth := xa_nx_th W I he.1 he.2.1
  have rb := P.2.2.2.2.2.2.1 e (by omega)
  obtain ⟨e', op, b1, b2, b3, b4, b5, b6, b7, b8, b9, b10, b11, b12⟩ := an_f P hn
  have ee : e' = e := by rw [h8, nI_eq (by omega) (by omega)] at b2; exact b2.symm
  subst ee
  have rI := P.2.2.2.2.2.1 e' b1
  have hr := rI.2.1 (by rw [b3, show (9 : Int32) = nI 9 from rfl, nI_eq (by omega) (by omega)]; omega)
  have F0 : F (60 + 5 * rx e' + 0) = nI op := by
    have := hr.2
    rw [if_neg (by rw [b3, show (10 : Int32) = nI 10 from rfl, nI_eq (by omega) (by omega)]; omega)] at this
    rw [this, b3]
  obtain ⟨kf1, kf2, kf3, kf4⟩ := kp_f hsz b1 b2
  obtain ⟨-, op', a1, a2, a3, a4, a5, a6, a7, a8, a9, a10, -⟩ := Z.2.2.2.2.2.2.2.1 e' b1
  have eop : op' = op := by rw [b3, nI_eq (by omega) (by omega)] at a1; exact a1.symm
  subst eop
  rw [b8] at hop
  obtain ⟨n1, n2⟩ := a5 (by omega)
  have hp := p_len D
  have dos : ∀ k, as_do (xa_ac (KP K) V 1 a t 0) k ↔ k = xa_nx a t ∨ as_do a k := fun k => by rw [xa_ac_do, up_true]
  have aho : as_ho (xa_ac (KP K) V 1 a t 0) = as_ho a := xa_hu_ho hhu
  have ame : as_me (xa_ac (KP K) V 1 a t 0) = as_me a := xa_hu_me hhu
  obtain ⟨d1, d2, d3, d4, ⟨d5, d6, d7⟩, d8, d9⟩ := D
  -- all but the queues
  have gen : ∀ g1 : Nat → Int32, (∀ k, k ≠ t → (k < 28 ∨ 96 ≤ k) → g1 k = g k) → g1 t = nI (rx e' + 1) → DQ K nt g1 (xa_ac (KP K) V 1 a t 0) → DRs K te ow rx na nt sz 1 V S g1 (xa_ac (KP K) V 1 a t 0) p ∧ TR K te ow rx sz 1 (as_do (xa_ac (KP K) V 1 a t 0)) g1 t (xa_lm a t) (e' + 1) ∧ ∀ k, k < 28 → k ≠ t → g1 k = g k := fun g1 k1 k2 k3 => by
    refine ⟨⟨fun t' ht' hS' => ?_, fun l hl hol => ?_, fun m hm => ?_, fun t' ht' => ?_, ⟨?_, by omega, fun i hi => ?_⟩, fun x => absurd rfl x, fun _ => k3⟩, ⟨?_, n1, n2.trans T.2.2.1, fun l hl hol => ?_, fun x => absurd rfl x⟩, fun k hk1 hk2 => k1 k hk2 (Or.inl hk1)⟩
    · have hne := hS t' hS'
      obtain ⟨e'', T', c⟩ := d1 t' ht' hS'
      unfold DTh
      rw [xa_ac_lm_ne hne, xa_ac_nx_ne hne]
      refine ⟨e'', dt_cg (by omega) (k1 _ hne (by omega)) (fun l hl _ => ⟨k1 _ (by omega) (by omega), k1 _ (by omega) (by omega)⟩) (fun n hn hd => ⟨k1 _ (by omega) (by omega), (dos n).mpr (Or.inr hd)⟩) T', c⟩
    · rw [k1 _ (by omega) (by omega)]; exact d2 l hl hol
    · rw [k1 _ (by omega) (by omega), aho]; exact d3 m hm
    · rw [k1 _ (by omega) (by omega)]; exact d4 t' ht'
    · rw [k1 _ (by omega) (by omega)]; exact d5
    · rw [k1 _ (by omega) (by omega)]; exact d7 i hi
    · rw [k2, hr.1]
    · rw [k1 _ (by omega) (by omega)]
      exact T.2.2.2.1 l hl hol
  obtain ⟨q1, q2, q3⟩ := d9 rfl
  have avs : ∀ c, xa_vs (xa_ac (KP K) V 1 a t 0) (as_me (xa_ac (KP K) V 1 a t 0) c) = xa_vs a (as_me a c) := fun c => by
    rw [ame]
    exact xa_vs_ac hnd (fun m hm => (I.2.2.2.2.1 c m hm).1)
  have E' : RE (sR h d g) s F 1 mo := sR_re E
  obtain c1 | c5 := hop
  · -- a write
    obtain ⟨f1, f2, b, l, hb, hl, f3, Xr⟩ := rI.2.2.2.2.1 (by rw [b3, c1]; rfl)
    obtain ⟨c, c6, c4⟩ := a6 (by omega)
    have hob : xa_ob (KP K) (xa_nx a t) = c := by rw [kf2, c4, ix_nI (by omega)]
    rw [c4] at f2
    have hbl : b = 1 → ow l = t := fun hb1 => by
      obtain ⟨cc, -, -, ⟨x, -, -⟩ | ⟨-, x, -⟩⟩ := Xr
      · omega
      · obtain ⟨y | ⟨b', y1, y2, y3⟩, -⟩ := a10 (Or.inl c1)
        · rw [x] at y; exact absurd y (nI_ne1 (by omega))
        · rw [x, nI_eq (by omega) (by omega)] at y2
          rw [y2, y3, T.2.2.1]
    obtain ⟨qs, u1, u2, u3, u4⟩ := q3 t ht
    have own8 : ∀ m, m ∈ qs → m < xa_nx a t := fun m hm => by
      have y := (u3 m).mp hm
      have := (I.2.1 m (I.2.2.2.1 m y.1).1).2
      rw [y.2] at this
      exact this
    have qs8 : (qs ++ [xa_nx a t]).length ≤ 8 := by
      refine q_len ?_ (fun m hm => ?_)
      · rw [List.pairwise_append]
        exact ⟨u2, List.pairwise_singleton _ _, fun x hx y hy => by rw [List.mem_singleton] at hy; rw [hy]; exact own8 x hx⟩
      · obtain hm | hm := List.mem_append.mp hm
        · have := own8 m hm; omega
        · rw [List.mem_singleton] at hm; omega
    have ql : qs.length ≤ 7 := by rw [List.length_append] at qs8; have : qs.length + 1 ≤ 8 := qs8; omega
    have EG : ∀ G, RE (sR h d G) s F 1 mo := fun G => sR_re E
    obtain ⟨v, v9, x1, x2⟩ := x_wo (d := d) (H := sR h d (up_1 g (32 + 8 * t + qs.length) (nI c))) (lm := xa_lm a t) (EG _) hd hl hb Xr (fun hb1 => by
      rw [sR_row (by omega), up_ne (by omega)]
      exact T.2.2.2.1 l hl (hbl hb1))
    have ws : pa_ws (KP K) (xa_nx a t) (xa_lm a t) = nI v := by
      show w_su K (xa_lm a t) (ix (K 8 (xa_nx a t))) = nI v
      rw [b2, ix_nI (by omega)]
      exact x2
    have awv : as_wv (xa_ac (KP K) V 1 a t 0) = up_1 (as_wv a) (xa_nx a t) (nI v) := by rw [xa_ac_wv, if_pos (b8.trans c1), ws]
    have ins : ∀ i, i < 5 → ∀ G, f_X11_instr 102 (nI (rx e')) (nI i) (sR h d G) = some (F (60 + 5 * rx e' + i), sR h d G) := fun i hi G => x_ins (sR_re E) (by omega)
    have i2 := ins 2 (by omega)
    rw [f2] at i2
    have i3 := ins 3 (by omega)
    rw [f3] at i3
    have i4 := ins 4 (by omega)
    have dm : ∀ b, b < 2 → ∀ l, l < 5 → rm_i (nI (2 * l + b)) 2 = some (nI b) ∧ dv_i (nI (2 * l + b)) 2 = some (nI l) := by decide
    have ix3 : ∀ k : Nat, nI k + (8 : Int32) * nI t + nI qs.length = nI (k + 8 * t + qs.length) := fun k => by rw [mu, nI_add, nI_add]
    refine ⟨up_1 (up_1 (up_1 (up_1 g (32 + 8 * t + qs.length) (nI c)) (64 + 8 * t + qs.length) (nI v)) (28 + t) (nI (qs.length + 1))) t (nI (rx e' + 1)), ?_, gen _ (fun k hk1 hk2 => ?_) up_same ⟨fun c' hc' => ?_, fun c' hc' => ?_, fun t' ht' => ?_⟩⟩
    · rw [se_head E hd (by omega) T.1 (by omega) F0, if_pos (Or.inr (Or.inr (Or.inr ⟨rfl, Or.inl (by rw [c1]; rfl)⟩))), c1]
      unfold b_X11_settle_79
      rw [if_neg (by decide)]
      unfold b_X11_settle_151
      rw [if_neg (by decide)]
      unfold b_X11_settle_199
      rw [if_neg (by decide)]
      unfold b_X11_settle_218
      rw [if_pos (show nI 1 = 1 from rfl)]
      unfold b_X11_settle_224
      rw [x_ok E', Option.bind_some, ad, x_sg E hd (by omega), Option.bind_some, u1, x_ok E', Option.bind_some, show f_X11_instr 102 (nI (rx e')) (2 : Int32) (sR h d g) = _ from i2 _, Option.bind_some, x_ok E', Option.bind_some, show (32 : Int32) = nI 32 from rfl, ix3, x_put E hd (by omega), Option.bind_some, x_ok (EG _), Option.bind_some, show f_X11_instr 102 (nI (rx e')) (3 : Int32) (sR h d (up_1 g (32 + 8 * t + qs.length) (nI c))) = _ from i3 _, Option.bind_some, (dm b hb l hl).1, Option.bind_some, x_ok (EG _), Option.bind_some, show f_X11_instr 102 (nI (rx e')) (3 : Int32) (sR h d (up_1 g (32 + 8 * t + qs.length) (nI c))) = _ from i3 _, Option.bind_some, (dm b hb l hl).2, Option.bind_some, x_ok (EG _), Option.bind_some, show f_X11_instr 102 (nI (rx e')) (4 : Int32) (sR h d (up_1 g (32 + 8 * t + qs.length) (nI c))) = _ from i4 _, Option.bind_some, x_ok (EG _), Option.bind_some, x1, Option.bind_some, x_ok (EG _), Option.bind_some, show (64 : Int32) = nI 64 from rfl, ix3, x_put E hd (by omega), Option.bind_some, x_ok (EG _), Option.bind_some, x_put E hd (by omega), Option.bind_some, da, da]
      exact se_315 E hd (by omega)
    · rw [up_ne hk1, up_ne (by omega), up_ne (by omega), up_ne (by omega)]
    · rw [up_ne (by omega), up_ne (by omega), up_ne (by omega), up_ne (by omega), avs]
      exact q1 c' hc'
    · rw [up_ne (by omega), up_ne (by omega), up_ne (by omega), up_ne (by omega)]
      exact q2 c' hc'
    · have aqu : ∀ m, as_qu (xa_ac (KP K) V 1 a t 0) m ↔ as_qu a m ∨ m = xa_nx a t := fun m => by
        rw [xa_hu_qu]
        exact or_congr_right ⟨fun x => x.1, fun x => ⟨x, b8.trans c1, rfl⟩⟩
      by_cases ett : t' = t
      · subst ett
        refine ⟨qs ++ [xa_nx a t'], ?_, ?_, fun m => ?_, fun i hi => ?_⟩
        · rw [up_ne (by omega), up_same, List.length_append]; rfl
        · rw [List.pairwise_append]
          exact ⟨u2, List.pairwise_singleton _ _, fun x hx y hy => by rw [List.mem_singleton] at hy; rw [hy]; exact own8 x hx⟩
        · rw [List.mem_append, List.mem_singleton, u3, aqu]
          constructor
          · rintro (x | x)
            · exact ⟨Or.inl x.1, x.2⟩
            · exact ⟨Or.inr x, by rw [x]; exact hth⟩
          · rintro ⟨x | x, y⟩
            · exact Or.inl ⟨x, y⟩
            · exact Or.inr x
        · rw [List.length_append] at hi
          have hi' : i < qs.length + 1 := hi
          rw [awv]
          by_cases ei : i = qs.length
          · subst ei
            have gd : (qs ++ [xa_nx a t']).getD qs.length 0 = xa_nx a t' := by
              rw [List.getD_eq_getElem?_getD, List.getElem?_append_right (Nat.le_refl _), Nat.sub_self]
              rfl
            rw [gd, up_same, hob, up_ne (by omega), up_ne (by omega), up_ne (by omega), up_same, up_ne (by omega), up_ne (by omega), up_same]
            exact ⟨rfl, rfl, v, v9, rfl⟩
          · have gd : (qs ++ [xa_nx a t']).getD i 0 = qs.getD i 0 := by
              rw [List.getD_eq_getElem?_getD, List.getD_eq_getElem?_getD, List.getElem?_append_left (by omega)]
            have gm : qs.getD i 0 ∈ qs := by
              rw [List.getD_eq_getElem?_getD, List.getElem?_eq_getElem (by omega)]
              exact List.getElem_mem _
            have := own8 _ gm
            rw [gd, up_ne (by omega), up_ne (by omega), up_ne (by omega), up_ne (by omega), up_ne (by omega), up_ne (by omega), up_ne (by omega), up_ne (by omega), up_ne (by omega)]
            exact u4 i (by omega)
      · obtain ⟨qs', y1, y2, y3, y4⟩ := q3 t' ht'
        have len' : qs'.length ≤ 8 := q_len y2 (fun m hm => by
          have := (I.2.1 m (I.2.2.2.1 m ((y3 m).mp hm).1).1).1
          rw [kp_na Z] at this
          omega)
        refine ⟨qs', ?_, y2, fun m => ?_, fun i hi => ?_⟩
        · rw [up_ne (by omega), up_ne (by omega), up_ne (by omega), up_ne (by omega)]; exact y1
        · rw [y3, aqu]
          constructor
          · rintro ⟨x, y⟩; exact ⟨Or.inl x, y⟩
          · rintro ⟨x | x, y⟩
            · exact ⟨x, y⟩
            · rw [x, hth] at y; exact absurd y.symm ett
        · have gm : qs'.getD i 0 ∈ qs' := by
            rw [List.getD_eq_getElem?_getD, List.getElem?_eq_getElem hi]
            exact List.getElem_mem _
          have gne : qs'.getD i 0 ≠ xa_nx a t := fun x => hnd (by rw [← x]; exact (I.2.2.2.1 _ ((y3 _).mp gm).1).1)
          rw [awv, up_ne (by omega), up_ne (by omega), up_ne (by omega), up_ne (by omega), up_ne (by omega), up_ne (by omega), up_ne (by omega), up_ne (by omega), up_ne gne]
          exact y4 i hi
  · -- done
    have awv : as_wv (xa_ac (KP K) V 1 a t 0) = as_wv a := by rw [xa_ac_wv, if_neg (by rw [b8, c5]; decide)]
    have aqu : as_qu (xa_ac (KP K) V 1 a t 0) = as_qu a := by rw [xa_ac_qu, if_neg (by rw [b8, c5]; omega)]
    refine ⟨up_1 g t (nI (rx e' + 1)), ?_, gen _ (fun k hk1 hk2 => up_ne hk1) up_same ⟨fun c' hc' => ?_, fun c' hc' => ?_, fun t' ht' => ?_⟩⟩
    · rw [se_head E hd (by omega) T.1 (by omega) F0, if_pos (Or.inr (Or.inr (Or.inr ⟨rfl, Or.inr (by rw [c5]; rfl)⟩))), c5]
      unfold b_X11_settle_79
      rw [if_neg (by decide)]
      unfold b_X11_settle_151
      rw [if_neg (by decide)]
      unfold b_X11_settle_199
      rw [if_neg (by decide)]
      unfold b_X11_settle_218
      rw [if_neg (by decide), da]
      exact se_315 E hd (by omega)
    · rw [up_ne (by omega), avs]; exact q1 c' hc'
    · rw [up_ne (by omega)]; exact q2 c' hc'
    · obtain ⟨qs', y1, y2, y3, y4⟩ := q3 t' ht'
      refine ⟨qs', by rw [up_ne (by omega)]; exact y1, y2, fun m => by rw [aqu]; exact y3 m, fun i hi => ?_⟩
      rw [awv, up_ne (by omega), up_ne (by omega)]
      exact y4 i hi
/-- settle in order 1, from an entry with an action on -/
theorem dr_hur (P : PR F K te ow rx na nt sz V mo) (E : RE h s F 1 mo) (hd : d < 20) (ht : t < nt) (hS : ∀ t', S t' → t' ≠ t) : ∀ (m e fu : Nat) (g : Nat → Int32) (a : AS), xa_in (KP K) 1 a → sz ≤ e + m → 200 < fu + e → DRs K te ow rx na nt sz 1 V (fun t' => S t' ∨ t' = t) g a p → TR K te ow rx sz 1 (as_do a) g t (xa_lm a t) e → ((K 0 e = 10 ∧ xa_nx a t = 8) ∨ (xa_nx a t < na ∧ K 6 e = nI (xa_nx a t) ∧ K 8 (xa_nx a t) = nI e)) →
    ∃ g' a' k, l_X11_settle_2 fu 102 (nI d) (nI t) 1 (sR h d g) = some (sR h d g') ∧ DRs K te ow rx na nt sz 1 V (fun t' => S t' ∨ t' = t) g' a' p ∧ hur (KP K) V t k a a' ∧ ¬ xa_hu (KP K) V 1 a' t ∧ ∀ k, k < 14 → k ≠ t → (∀ l, l < 5 → ow l = t → k ≠ 4 + l ∧ k ≠ 9 + l) → g' k = g k := by
  have Z := P.1
  have W := kp_wf Z
  have hna := Z.1
  have hnt := Z.2.1
  have hsz := Z.2.2.1
  intro m
  induction m with
  | zero => intro e fu g a I h1 _ _ T; have := T.2.1; omega
  | succ m ih =>
    intro e fu g a I h1 h2 D T c
    have e1 := T.2.1
    have rb := P.2.2.2.2.2.2.1 e (by omega)
    have rI := P.2.2.2.2.2.1 e e1
    by_cases hop : xa_nx a t < na ∧ (xa_op (KP K) (xa_nx a t) = 1 ∨ xa_op (KP K) (xa_nx a t) = 5)
    · obtain ⟨hn, hop⟩ := hop
      have h8 : K 8 (xa_nx a t) = nI e := by
        obtain ⟨-, c⟩ | c := c
        · omega
        · exact c.2.2
      have hhu : xa_hu (KP K) V 1 a t := ⟨by rw [kp_nt Z]; exact ht, by rw [kp_na Z]; exact hn, by obtain c | c := hop; exact Or.inr ⟨c, Or.inl rfl⟩; exact Or.inl c⟩
      have I1 := xa_in_ac W I (xa_hu_en hhu) (xa_hu_se hhu)
      obtain ⟨f, rfl⟩ : ∃ f, fu = f + 1 := ⟨fu - 1, by omega⟩
      obtain ⟨g1, x1, x2, x3, x4⟩ := se_1 (f := f) P E hd ht I hS ⟨fun t' ht' hS' => D.1 t' ht' (Or.inl hS'), D.2⟩ T hn h8 hop
      have kc : pa_kc (KP K) (xa_nx a t) (xa_rd (KP K) (xa_lm a t) (xa_nx a t) 0 (xa_vs a 0)) = w_go K 64 (xa_lm a t) (e + 1) := by
        rw [rd_ne (by omega)]
        show w_go K 64 _ (ix (K 8 (xa_nx a t)) + 1) = _
        rw [h8, ix_nI (by omega)]
      obtain ⟨g2, e2, fu2, y1, y2, y3, y4, yk, y5, y6⟩ := dr_seg (fu := f) P E hd ht I1 hS x2 x3 (by rw [xa_ac_lm, kc]) (by rw [xa_ac_nx, kc]) (by omega)
      have := y5.2.1
      obtain ⟨g', a', k, z1, z2, z3, z4, z5⟩ := ih e2 fu2 g2 _ I1 (by omega) (by omega) y4 y5 y6
      exact ⟨g', a', k + 1, x1.trans (y1.trans z1), z2, ⟨hhu, z3⟩, z4, fun q q1 q2 q3 => by rw [z5 q q1 q2 q3, yk q q2 q3, x4 q (by omega) q2]⟩
    · refine ⟨g, a, 0, ?_, D, rfl, fun x => hop ⟨by have := x.2.1; rw [kp_na Z] at this; exact this, by obtain y | ⟨y, -⟩ := x.2.2; exact Or.inr y; exact Or.inl y⟩, fun _ _ _ _ => rfl⟩
      obtain ⟨f, rfl⟩ : ∃ f, fu = f + 2 := ⟨fu - 2, by omega⟩
      refine se_stop E hd (by omega) T.1 (by omega) rfl ?_
      obtain ⟨c1, -⟩ | ⟨c1, c2, c3⟩ := c
      · have := (rI.2.1 (by rw [c1]; decide)).2
        rw [if_pos c1] at this
        rw [this]
        decide
      · obtain ⟨e'', op, b1, b2, b3, b4, b5, b6, b7, b8, -⟩ := an_f P c1
        have : e'' = e := by rw [c3, nI_eq (by omega) (by omega)] at b2; exact b2.symm
        subst this
        have := (rI.2.1 (by rw [b3, show (9 : Int32) = nI 9 from rfl, nI_eq (by omega) (by omega)]; omega)).2
        rw [if_neg (by rw [b3, show (10 : Int32) = nI 10 from rfl, nI_eq (by omega) (by omega)]; omega)] at this
        rw [this, b3, show (6 : Int32) = nI 6 from rfl, show (7 : Int32) = nI 7 from rfl, show (8 : Int32) = nI 8 from rfl, show (1 : Int32) = nI 1 from rfl, show (5 : Int32) = nI 5 from rfl, nI_eq (by omega) (by omega), nI_eq (by omega) (by omega), nI_eq (by omega) (by omega), nI_eq (by omega) (by omega), nI_eq (by omega) (by omega)]
        rintro (c | c | c | ⟨-, c | c⟩)
        · omega
        · omega
        · omega
        · exact hop ⟨c1, Or.inl (b8.trans c)⟩
        · exact hop ⟨c1, Or.inr (b8.trans c)⟩
end
