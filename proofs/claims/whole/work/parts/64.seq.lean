/-! ===== what a sequential run comes to, a queued and a loose one come to, whatever is volatile ===== -/
def xs_q (s s' : AS) : Prop := as_th s = as_th s' ∧ as_ho s = as_ho s' ∧ as_do s = as_do s' ∧ (∀ m, ¬ as_qu s m) ∧ (∀ m, ¬ as_qu s' m) ∧ as_me s = as_me s' ∧ as_wv s = as_wv s'
theorem xs_nx {s s' : AS} (h : as_th s = as_th s') (t : Nat) : xa_nx s t = xa_nx s' t := by unfold xa_nx; rw [h]
theorem xs_lm {s s' : AS} (h : as_th s = as_th s') (t : Nat) : xa_lm s t = xa_lm s' t := by unfold xa_lm; rw [h]
theorem xs_en {P : PA} {V V' : Nat → Bool} {s s' : AS} {t : Nat} (h1 : as_th s = as_th s') (h2 : as_ho s = as_ho s') (h3 : ∀ m, ¬ as_qu s' m) (h : xa_en P V s t) : xa_en P V' s' t := by
  have hq : xa_qe P s' t := fun m a _ => h3 m a
  unfold xa_en at h ⊢
  rw [← xs_nx h1, ← xs_lm h1, ← h2]
  exact ⟨h.1, h.2.1, fun _ _ => hq, h.2.2.2.1, fun a => ⟨(h.2.2.2.2.1 a).1, hq⟩, fun _ => hq⟩
theorem xs_end {P : PA} {V V' : Nat → Bool} {s s' : AS} (h1 : as_th s = as_th s') (h2 : as_ho s = as_ho s') (h3 : ∀ m, ¬ as_qu s m) (h4 : ∀ m, ¬ as_qu s' m) (h : xa_end P V s) : xa_end P V' s' :=
  fun t => ⟨fun a => (h t).1 (xs_en h1.symm h2.symm h3 a), fun m a => h4 m a.2.1⟩
theorem xs_th {P : PA} {V V' : Nat → Bool} {o o' : Nat} {s s' : AS} {t w : Nat} (h1 : as_th s = as_th s') (h2 : as_wv s = as_wv s') : as_th (xa_ac P V o s t w) = as_th (xa_ac P V' o' s' t w) := by
  rw [xa_ac_th, xa_ac_th, xs_nx h1, xs_lm h1, h1]
  unfold xa_vs
  rw [h2]
theorem xs_ho {P : PA} {V V' : Nat → Bool} {o o' : Nat} {s s' : AS} {t w : Nat} (h1 : as_th s = as_th s') (h2 : as_ho s = as_ho s') : as_ho (xa_ac P V o s t w) = as_ho (xa_ac P V' o' s' t w) := by
  rw [xa_ac_ho, xa_ac_ho, xs_nx h1, h2]
theorem xs_do {P : PA} {V V' : Nat → Bool} {o o' : Nat} {s s' : AS} {t w : Nat} (h1 : as_th s = as_th s') (h2 : as_do s = as_do s') : as_do (xa_ac P V o s t w) = as_do (xa_ac P V' o' s' t w) := by
  rw [xa_ac_do, xa_ac_do, xs_nx h1, h2]
theorem xs_wv {P : PA} {V V' : Nat → Bool} {o o' : Nat} {s s' : AS} {t w : Nat} (h1 : as_th s = as_th s') (h2 : as_wv s = as_wv s') : as_wv (xa_ac P V o s t w) = as_wv (xa_ac P V' o' s' t w) := by
  rw [xa_ac_wv, xa_ac_wv, xs_nx h1, xs_lm h1, h2]
theorem xs_queued {P : PA} {V V' : Nat → Bool} (W : xa_wf P) : ∀ (p : List (Nat × Nat)) (s s' z : AS), xs_q s s' → xa_in P 0 s → xa_ph P V 0 p s z → xa_end P V z → ∃ p' z', xa_ph P V' 1 p' s' z' ∧ xa_end P V' z' ∧ as_th z' = as_th z := by
  intro p
  induction p with
  | nil =>
    intro s s' z Q I h E
    cases h
    exact ⟨[], s', rfl, xs_end Q.1 Q.2.1 Q.2.2.2.1 Q.2.2.2.2.1 E, Q.1.symm⟩
  | cons q p ih =>
    intro s s' z Q I h E
    obtain ⟨t, w⟩ := q
    obtain ⟨q1, q2, q3, q4, q5, q6, q7⟩ := Q
    obtain ⟨h1, he, hs, h4⟩ | ⟨h1, h2, h3⟩ := h
    · have he' : xa_en P V' s' t := xs_en q1 q2 q5 he
      have hs' : xa_se P V' 1 s' t w := by
        have hs0 : xa_se P V 0 s t w := hs
        unfold xa_se at hs0 ⊢
        rw [← xs_nx q1]
        split at hs0
        · rename_i a
          rw [if_pos (Or.inl rfl)] at hs0
          rw [if_pos a, if_neg (by omega), if_pos rfl, ← q6]
          exact Or.inr ⟨fun m b => q5 m b.1, hs0⟩
        · rename_i a
          rw [if_neg a]; exact hs0
      have I' := xa_in_ac W I he hs
      by_cases hw : xa_op P (xa_nx s t) = 1
      · have hf : xa_fi P (xa_ac P V' 1 s' t w) t (xa_nx s t) := by
          refine ⟨he.1, ?_, xa_nx_th W I he.1 he.2.1, ?_⟩
          · rw [xa_hu_qu, ← xs_nx q1]; exact Or.inr ⟨rfl, hw, rfl⟩
          · intro m a b c
            rw [xa_hu_qu, ← xs_nx q1] at b
            obtain b | b := b
            · exact q5 m b
            · omega
        have Q' : xs_q (xa_ac P V 0 s t w) (xa_em P (xa_ac P V' 1 s' t w) (xa_nx s t)) := by
          refine ⟨xs_th (V' := V') (o' := 1) q1 q7, xs_ho (V' := V') (o' := 1) q1 q2, xs_do (V' := V') (o' := 1) q1 q3, ?_, ?_, ?_, xs_wv (V' := V') (o' := 1) q1 q7⟩
          · intro m a
            rw [xa_hu_qu] at a
            obtain a | a := a
            · exact q4 m a
            · omega
          · intro m a
            have a' : up_1 (as_qu (xa_ac P V' 1 s' t w)) (xa_nx s t) False m := a
            rw [up_false, xa_hu_qu, ← xs_nx q1] at a'
            obtain ⟨a1, a2 | a2⟩ := a'
            · exact q5 m a2
            · exact a1 a2.1
          · show _ = up_1 (as_me (xa_ac P V' 1 s' t w)) (xa_ob P (xa_nx s t)) (xa_nx s t + 1)
            rw [xa_ac_me, xa_ac_me, if_pos ⟨hw, Or.inl rfl⟩, if_neg (by omega), q6]
        obtain ⟨p', z', b1, b2, b3⟩ := ih _ _ z Q' I' h4 E
        refine ⟨(t, w) :: (t, 10 + xa_nx s t) :: p', z', Or.inl ⟨h1, he', hs', Or.inr ⟨Nat.le_add_right _ _, ?_, ?_⟩⟩, b2, b3⟩
        · show xa_fi P (xa_ac P V' 1 s' t w) t (10 + xa_nx s t - 10)
          rw [Nat.add_sub_cancel_left]; exact hf
        · show xa_ph P V' 1 p' (xa_em P (xa_ac P V' 1 s' t w) (10 + xa_nx s t - 10)) z'
          rw [Nat.add_sub_cancel_left]; exact b1
      · have Q' : xs_q (xa_ac P V 0 s t w) (xa_ac P V' 1 s' t w) := by
          refine ⟨xs_th q1 q7, xs_ho q1 q2, xs_do q1 q3, ?_, ?_, ?_, xs_wv q1 q7⟩
          · intro m a
            rw [xa_hu_qu] at a
            obtain a | a := a
            · exact q4 m a
            · omega
          · intro m a
            rw [xa_hu_qu, ← xs_nx q1] at a
            obtain a | a := a
            · exact q5 m a
            · omega
          · rw [xa_ac_me, xa_ac_me, ← xs_nx q1, if_neg (by omega), if_neg (by omega), q6]
        obtain ⟨p', z', b1, b2, b3⟩ := ih _ _ z Q' I' h4 E
        exact ⟨(t, w) :: p', z', Or.inl ⟨h1, he', hs', b1⟩, b2, b3⟩
    · exact (q4 _ h2.2.1).elim
def xs_l (P : PA) (V' : Nat → Bool) (s s' : AS) : Prop := as_th s = as_th s' ∧ as_ho s = as_ho s' ∧ as_do s = as_do s' ∧ (∀ m, ¬ as_qu s m) ∧ (∀ m, ¬ as_qu s' m) ∧ (∀ c, V' c = true → as_me s c = as_me s' c) ∧ as_wv s = as_wv s' ∧
  (∀ c, as_me s c = 0 → ∀ a, xa_wr P a c → ¬ as_do s a) ∧ (∀ c m, as_me s c = m + 1 → ∀ a, xa_wr P a c → ¬ as_ea s' a m)
theorem xs_loose {P : PA} {V V' : Nat → Bool} (W : xa_wf P) : ∀ (p : List (Nat × Nat)) (s s' z : AS), xs_l P V' s s' → xa_in P 0 s → xa_in P 2 s' → xa_ph P V 0 p s z → xa_end P V z → ∃ p' z', xa_ph P V' 2 p' s' z' ∧ xa_end P V' z' ∧ as_th z' = as_th z := by
  intro p
  induction p with
  | nil =>
    intro s s' z Q I I2 h E
    cases h
    exact ⟨[], s', rfl, xs_end Q.1 Q.2.1 Q.2.2.2.1 Q.2.2.2.2.1 E, Q.1.symm⟩
  | cons q p ih =>
    intro s s' z Q I I2 h E
    obtain ⟨t, w⟩ := q
    obtain ⟨q1, q2, q3, q4, q5, q6, q7, q8, q9⟩ := Q
    obtain ⟨h1, he, hs, h4⟩ | ⟨h1, h2, h3⟩ := h
    · have he' : xa_en P V' s' t := xs_en q1 q2 q5 he
      have hs' : xa_se P V' 2 s' t w := by
        have hs0 : xa_se P V 0 s t w := hs
        unfold xa_se at hs0 ⊢
        rw [← xs_nx q1]
        split at hs0
        · rename_i a
          rw [if_pos (Or.inl rfl)] at hs0
          rw [if_pos a]
          by_cases b : V' (xa_ob P (xa_nx s t)) = true
          · rw [if_pos (Or.inr ⟨rfl, b⟩), ← q6 _ b]; exact hs0
          · rw [if_neg (by rintro (c | c); omega; exact b c.2), if_neg (by omega)]
            constructor
            · by_cases c : w = 0
              · exact Or.inl c
              · refine Or.inr ⟨w - 1, by omega, ?_⟩
                have d := I.2.2.2.2.1 (xa_ob P (xa_nx s t)) (w - 1) (by omega)
                rw [← q3]
                exact d
            · rintro ⟨a', c1, c2, c3, c4⟩
              obtain c4 | ⟨m, c4, c5⟩ := c4
              · exact q8 _ (hs0.symm.trans c4) a' c1 (by rw [q3]; exact c2)
              · exact q9 _ m (hs0.symm.trans c4) a' c1 c5
        · rename_i a
          rw [if_neg a]; exact hs0
      have I' := xa_in_ac W I he hs
      have I2' := xa_in_ac W I2 he' hs'
      have hnd := xa_nx_nd W I he.1 he.2.1
      have hnd' : ¬ as_do s' (xa_nx s t) := by rw [← q3]; exact hnd
      have hah : ∀ a, xa_ah P V' 2 s' t (xa_nx s' t) w a → as_do s' a := fun a b => xa_ah_do I2 (fun m hm => (xa_se_do I2 (hm ▸ hs')).1) b
      have Q' : xs_l P V' (xa_ac P V 0 s t w) (xa_ac P V' 2 s' t w) := by
        refine ⟨xs_th q1 q7, xs_ho q1 q2, xs_do q1 q3, ?_, ?_, ?_, xs_wv q1 q7, ?_, ?_⟩
        · intro m a
          rw [xa_hu_qu] at a
          obtain a | a := a
          · exact q4 m a
          · omega
        · intro m a
          rw [xa_hu_qu, ← xs_nx q1] at a
          obtain a | a := a
          · exact q5 m a
          · omega
        · intro c hc
          rw [xa_ac_me, xa_ac_me, ← xs_nx q1]
          by_cases a : xa_op P (xa_nx s t) = 1
          · rw [if_pos ⟨a, Or.inl rfl⟩]
            by_cases b : c = xa_ob P (xa_nx s t)
            · subst b
              rw [up_same, if_pos ⟨a, Or.inr ⟨rfl, hc⟩⟩, up_same]
            · rw [up_ne b]
              split
              · rw [up_ne b]; exact q6 c hc
              · exact q6 c hc
          · rw [if_neg (by omega), if_neg (by omega)]; exact q6 c hc
        · intro c hc a ha hd
          rw [xa_ac_do, up_true] at hd
          rw [xa_ac_me] at hc
          by_cases b : xa_op P (xa_nx s t) = 1
          · rw [if_pos ⟨b, Or.inl rfl⟩] at hc
            by_cases d : c = xa_ob P (xa_nx s t)
            · subst d; rw [up_same] at hc; omega
            · rw [up_ne d] at hc
              obtain hd | hd := hd
              · subst hd; exact d ha.2.symm
              · exact q8 c hc a ha hd
          · rw [if_neg (by omega)] at hc
            obtain hd | hd := hd
            · subst hd; exact b ha.1
            · exact q8 c hc a ha hd
        · intro c m hc a ha hea
          rw [xa_ac_ea, ← xs_nx q1] at hea
          rw [xa_ac_me] at hc
          by_cases b : xa_op P (xa_nx s t) = 1
          · rw [if_pos ⟨b, Or.inl rfl⟩] at hc
            by_cases d : c = xa_ob P (xa_nx s t)
            · subst d
              rw [up_same] at hc
              obtain rfl : m = xa_nx s t := by omega
              by_cases f : a = xa_nx s t
              · subst f
                rw [up_same] at hea
                exact hnd' (xa_ah_do I2 (fun m hm => (xa_se_do I2 (hm ▸ hs')).1) hea)
              · rw [up_ne f] at hea
                exact hnd' (I2.2.2.1 _ _ hea).2
            · rw [up_ne d] at hc
              by_cases f : a = xa_nx s t
              · subst f; exact d ha.2.symm
              · rw [up_ne f] at hea
                exact q9 c m hc a ha hea
          · rw [if_neg (by omega)] at hc
            by_cases f : a = xa_nx s t
            · subst f; exact b ha.1
            · rw [up_ne f] at hea
              exact q9 c m hc a ha hea
      obtain ⟨p', z', b1, b2, b3⟩ := ih _ _ z Q' I' I2' h4 E
      exact ⟨(t, w) :: p', z', Or.inl ⟨h1, he', hs', b1⟩, b2, b3⟩
    · exact (q4 _ h2.2.1).elim
theorem xs_any {P : PA} {V V' : Nat → Bool} {o : Nat} {p : List (Nat × Nat)} {z : AS} (W : xa_wf P) (ho : o = 1 ∨ o = 2) (h : xa_ph P V 0 p (xa_0 P) z) (E : xa_end P V z) : ∃ p' z', xa_ph P V' o p' (xa_0 P) z' ∧ xa_end P V' z' ∧ as_th z' = as_th z := by
  obtain rfl | rfl := ho
  · exact xs_queued W p _ _ z ⟨rfl, rfl, rfl, fun _ a => a, fun _ a => a, rfl, rfl⟩ (xa_in_0 W) h E
  · exact xs_loose W p _ _ z ⟨rfl, rfl, rfl, fun _ a => a, fun _ a => a, fun _ _ => rfl, rfl, fun _ _ _ _ a => a, fun _ _ a => Nat.noConfusion a⟩ (xa_in_0 W) (xa_in_0 W) h E
/-- cells that no READ or WRITE has may be volatile or not -/
theorem xs_vol {P : PA} {V V' : Nat → Bool} {o : Nat} (W : xa_wf P) (hV : ∀ n, n < pa_na P → (xa_op P n = 0 ∨ xa_op P n = 1 ∨ xa_op P n = 2) → V (xa_ob P n) = V' (xa_ob P n)) : ∀ (p : List (Nat × Nat)) (s z : AS), xa_in P o s → xa_ph P V o p s z → xa_ph P V' o p s z := by
  have hen : ∀ s t, xa_en P V s t → xa_en P V' s t := fun s t h => ⟨h.1, h.2.1, fun a b => h.2.2.1 a (by rw [hV _ h.2.1 (Or.inl a)]; exact b), h.2.2.2⟩
  have hlk : ∀ (s : AS) (t w l : Nat), xa_nx s t < pa_na P → xa_lk P V o s t (xa_nx s t) w l = xa_lk P V' o s t (xa_nx s t) w l := by
    intro s t w l h
    unfold xa_lk
    apply propext
    constructor
    · rintro (a | a | ⟨a, b, c⟩ | a)
      · exact Or.inl a
      · exact Or.inr (Or.inl a)
      · exact Or.inr (Or.inr (Or.inl ⟨a, by rw [← hV _ h (Or.inl a)]; exact b, c⟩))
      · exact Or.inr (Or.inr (Or.inr a))
    · rintro (a | a | ⟨a, b, c⟩ | a)
      · exact Or.inl a
      · exact Or.inr (Or.inl a)
      · exact Or.inr (Or.inr (Or.inl ⟨a, by rw [hV _ h (Or.inl a)]; exact b, c⟩))
      · exact Or.inr (Or.inr (Or.inr a))
  have hah : ∀ (s : AS) (t w : Nat), xa_nx s t < pa_na P → xa_ah P V o s t (xa_nx s t) w = xa_ah P V' o s t (xa_nx s t) w := by
    intro s t w h
    funext a
    unfold xa_ah
    simp only [hlk s t w _ h]
  intro p
  induction p with
  | nil => intro s z I h; exact h
  | cons q p ih =>
    intro s z I h
    obtain ⟨h1, he, hs, h4⟩ | ⟨h1, h2, h3⟩ := h
    · have hac : xa_ac P V o s q.1 q.2 = xa_ac P V' o s q.1 q.2 := by
        apply as_ext
        · rfl
        · rfl
        · rfl
        · rfl
        · rw [xa_ac_me, xa_ac_me]
          by_cases a : xa_op P (xa_nx s q.1) = 1
          · rw [hV _ he.2.1 (Or.inr (Or.inl a))]
          · rw [if_neg (fun b => a b.1), if_neg (fun b => a b.1)]
        · rfl
        · rw [xa_ac_ea, xa_ac_ea, hah s q.1 q.2 he.2.1]
        · rfl
      refine Or.inl ⟨h1, hen s q.1 he, ?_, ?_⟩
      · unfold xa_se at hs ⊢
        unfold xa_hid at hs ⊢
        split at hs
        · rename_i a
          rw [if_pos a, ← hV _ he.2.1 (by omega), ← hah s q.1 0 he.2.1]
          exact hs
        · rename_i a
          rw [if_neg a]
          exact hs
      · rw [← hac]
        exact ih _ _ (xa_in_ac W I he hs) h4
    · exact Or.inr ⟨h1, h2, ih _ _ (xa_in_em I h2) h3⟩
theorem xs_vol_end {P : PA} {V V' : Nat → Bool} (hV : ∀ n, n < pa_na P → (xa_op P n = 0 ∨ xa_op P n = 1 ∨ xa_op P n = 2) → V (xa_ob P n) = V' (xa_ob P n)) {s : AS} (h : xa_end P V s) : xa_end P V' s :=
  fun t => ⟨fun e => (h t).1 ⟨e.1, e.2.1, fun a b => e.2.2.1 a (by rw [← hV _ e.2.1 (Or.inl a)]; exact b), e.2.2.2⟩, (h t).2⟩
