/-! ===== the mid picture: programs and states of the search, orders 0, 1, 2 ===== -/
abbrev LM : Type := (Nat → Int32) × (Nat → Nat)
abbrev TS : Type := LM × Nat
/-- na, nt, fields of an action (0 thread, 1 op, 2 object, 3 target, 4 base), what comes at once behind it, the starts, the value written, maker, done -/
abbrev PA : Type := Nat × Nat × (Nat → Nat → Nat) × (Nat → LM → TS) × (Nat → TS) × (Nat → LM → Int32) × Nat × Nat
def pa_na (P : PA) : Nat := P.1
def pa_nt (P : PA) : Nat := P.2.1
def pa_fl (P : PA) : Nat → Nat → Nat := P.2.2.1
def pa_kc (P : PA) : Nat → LM → TS := P.2.2.2.1
def pa_ks (P : PA) : Nat → TS := P.2.2.2.2.1
def pa_ws (P : PA) : Nat → LM → Int32 := P.2.2.2.2.2.1
def pa_mk (P : PA) : Nat := P.2.2.2.2.2.2.1
def pa_dn (P : PA) : Nat := P.2.2.2.2.2.2.2
def xa_th (P : PA) (n : Nat) : Nat := pa_fl P n 0
def xa_op (P : PA) (n : Nat) : Nat := pa_fl P n 1
def xa_ob (P : PA) (n : Nat) : Nat := pa_fl P n 2
def xa_tl (P : PA) (n : Nat) : Nat := pa_fl P n 3
def xa_bl (P : PA) (n : Nat) : Nat := pa_fl P n 4
/-- threads, holders, done, queue, mem (write + 1, 0 none), values written, before, seen (write + 1) -/
abbrev AS : Type := (Nat → TS) × (Nat → Nat) × (Nat → Prop) × (Nat → Prop) × (Nat → Nat) × (Nat → Int32) × (Nat → Nat → Prop) × (Nat → Nat)
def as_th (s : AS) : Nat → TS := s.1
def as_ho (s : AS) : Nat → Nat := s.2.1
def as_do (s : AS) : Nat → Prop := s.2.2.1
def as_qu (s : AS) : Nat → Prop := s.2.2.2.1
def as_me (s : AS) : Nat → Nat := s.2.2.2.2.1
def as_wv (s : AS) : Nat → Int32 := s.2.2.2.2.2.1
def as_ea (s : AS) : Nat → Nat → Prop := s.2.2.2.2.2.2.1
def as_sa (s : AS) : Nat → Nat := s.2.2.2.2.2.2.2
def xa_nx (s : AS) (t : Nat) : Nat := (as_th s t).2
def xa_lm (s : AS) (t : Nat) : LM := (as_th s t).1
def xa_pub (P : PA) (lm : LM) (l : Nat) : Prop := ∃ m, lm.2 l = m + 1 ∧ xa_th P m = pa_mk P ∧ pa_dn P < m
def xa_lk (P : PA) (V : Nat → Bool) (o : Nat) (s : AS) (t n w l : Nat) : Prop :=
  (xa_th P l = t ∧ as_do s l) ∨ (xa_op P n = 3 ∧ xa_op P l = 4 ∧ xa_ob P l = xa_ob P n ∧ as_do s l)
  ∨ (xa_op P n = 0 ∧ V (xa_ob P n) = true ∧ w = l + 1) ∨ (xa_op P n = 2 ∧ o = 2 ∧ pa_dn P = l ∧ as_do s l ∧ xa_pub P (xa_lm s t) (xa_bl P n))
def xa_ah (P : PA) (V : Nat → Bool) (o : Nat) (s : AS) (t n w a : Nat) : Prop := ∃ l, xa_lk P V o s t n w l ∧ (a = l ∨ as_ea s l a)
def xa_wr (P : PA) (m c : Nat) : Prop := xa_op P m = 1 ∧ xa_ob P m = c
def xa_qc (P : PA) (s : AS) (t c m : Nat) : Prop := as_qu s m ∧ xa_th P m = t ∧ xa_ob P m = c
def xa_qe (P : PA) (s : AS) (t : Nat) : Prop := ∀ m, as_qu s m → xa_th P m = t → False
def xa_hid (P : PA) (V : Nat → Bool) (o : Nat) (s : AS) (t n c w : Nat) : Prop := ∃ a, xa_wr P a c ∧ as_do s a ∧ xa_ah P V o s t n 0 a ∧ (w = 0 ∨ ∃ m, w = m + 1 ∧ as_ea s a m)
def xa_se (P : PA) (V : Nat → Bool) (o : Nat) (s : AS) (t w : Nat) : Prop :=
  if xa_op P (xa_nx s t) = 0 ∨ xa_op P (xa_nx s t) = 2 then
    if o = 0 ∨ (o = 2 ∧ V (xa_ob P (xa_nx s t)) = true) then w = as_me s (xa_ob P (xa_nx s t))
    else if o = 1 then (∃ m, w = m + 1 ∧ xa_qc P s t (xa_ob P (xa_nx s t)) m ∧ ∀ m', m < m' → ¬ xa_qc P s t (xa_ob P (xa_nx s t)) m') ∨ ((∀ m, ¬ xa_qc P s t (xa_ob P (xa_nx s t)) m) ∧ w = as_me s (xa_ob P (xa_nx s t)))
    else (w = 0 ∨ ∃ m, w = m + 1 ∧ as_do s m ∧ xa_wr P m (xa_ob P (xa_nx s t))) ∧ ¬ xa_hid P V o s t (xa_nx s t) (xa_ob P (xa_nx s t)) w
  else w = 0
def xa_en (P : PA) (V : Nat → Bool) (s : AS) (t : Nat) : Prop :=
  t < pa_nt P ∧ xa_nx s t < pa_na P ∧
  (xa_op P (xa_nx s t) = 0 → V (xa_ob P (xa_nx s t)) = true → xa_qe P s t) ∧
  (xa_op P (xa_nx s t) = 2 → (xa_lm s t).1 (xa_bl P (xa_nx s t)) ≠ 0) ∧
  (xa_op P (xa_nx s t) = 3 → as_ho s (xa_ob P (xa_nx s t)) = 0 ∧ xa_qe P s t) ∧
  (xa_op P (xa_nx s t) = 4 → xa_qe P s t)
def xa_vs (s : AS) (w : Nat) : Int32 := if w = 0 then 0 else as_wv s (w - 1)
def xa_rd (P : PA) (lm : LM) (n w : Nat) (v : Int32) : LM := if xa_op P n = 0 ∨ xa_op P n = 2 then (up_1 lm.1 (xa_tl P n) v, up_1 lm.2 (xa_tl P n) (if xa_op P n = 0 then w else 0)) else lm
def xa_ac (P : PA) (V : Nat → Bool) (o : Nat) (s : AS) (t w : Nat) : AS :=
  (up_1 (as_th s) t (pa_kc P (xa_nx s t) (xa_rd P (xa_lm s t) (xa_nx s t) w (xa_vs s w))),
   (if xa_op P (xa_nx s t) = 3 then up_1 (as_ho s) (xa_ob P (xa_nx s t)) (t + 1) else if xa_op P (xa_nx s t) = 4 then up_1 (as_ho s) (xa_ob P (xa_nx s t)) 0 else as_ho s),
   up_1 (as_do s) (xa_nx s t) True,
   (if xa_op P (xa_nx s t) = 1 ∧ o = 1 then up_1 (as_qu s) (xa_nx s t) True else as_qu s),
   (if xa_op P (xa_nx s t) = 1 ∧ (o = 0 ∨ (o = 2 ∧ V (xa_ob P (xa_nx s t)) = true)) then up_1 (as_me s) (xa_ob P (xa_nx s t)) (xa_nx s t + 1) else as_me s),
   (if xa_op P (xa_nx s t) = 1 then up_1 (as_wv s) (xa_nx s t) (pa_ws P (xa_nx s t) (xa_lm s t)) else as_wv s),
   up_1 (as_ea s) (xa_nx s t) (xa_ah P V o s t (xa_nx s t) w),
   up_1 (as_sa s) (xa_nx s t) w)
def xa_em (P : PA) (s : AS) (m : Nat) : AS :=
  (as_th s, as_ho s, as_do s, up_1 (as_qu s) m False, up_1 (as_me s) (xa_ob P m) (m + 1), as_wv s, as_ea s, as_sa s)
/-- m is the first in thread t's queue -/
def xa_fi (P : PA) (s : AS) (t m : Nat) : Prop := t < pa_nt P ∧ as_qu s m ∧ xa_th P m = t ∧ ∀ m', m' < m → as_qu s m' → xa_th P m' = t → False
/-- a path: (t, w) with w < 10 an action that sees w, (t, 10 + m) an emptying of m -/
def xa_ph (P : PA) (V : Nat → Bool) (o : Nat) : List (Nat × Nat) → AS → AS → Prop
  | [], s, s' => s = s'
  | q :: p, s, s' => (q.2 < 10 ∧ xa_en P V s q.1 ∧ xa_se P V o s q.1 q.2 ∧ xa_ph P V o p (xa_ac P V o s q.1 q.2) s') ∨ (10 ≤ q.2 ∧ xa_fi P s q.1 (q.2 - 10) ∧ xa_ph P V o p (xa_em P s (q.2 - 10)) s')
def xa_end (P : PA) (V : Nat → Bool) (s : AS) : Prop := ∀ t, ¬ xa_en P V s t ∧ ∀ m, ¬ xa_fi P s t m
def xa_0 (P : PA) : AS := (pa_ks P, fun _ => 0, fun _ => False, fun _ => False, fun _ => 0, fun _ => 0, fun _ _ => False, fun _ => 0)
def xa_wf (P : PA) : Prop :=
  (∀ t, t < pa_nt P → (pa_ks P t).2 = 8 ∨ ((pa_ks P t).2 < pa_na P ∧ xa_th P (pa_ks P t).2 = t)) ∧
  (∀ n lm, n < pa_na P → (pa_kc P n lm).2 = 8 ∨ ((pa_kc P n lm).2 < pa_na P ∧ xa_th P (pa_kc P n lm).2 = xa_th P n ∧ n < (pa_kc P n lm).2)) ∧
  (∀ n, n < pa_na P → xa_th P n < pa_nt P) ∧ pa_na P ≤ 8 ∧
  (∀ n lm l, (pa_kc P n lm).1.2 l = 0 ∨ (pa_kc P n lm).1.2 l = lm.2 l) ∧ (∀ t l, (pa_ks P t).1.2 l = 0) ∧
  (pa_dn P < pa_na P → xa_th P (pa_dn P) = pa_mk P)
def xa_in (P : PA) (o : Nat) (s : AS) : Prop :=
  (∀ t, t < pa_nt P → xa_nx s t = 8 ∨ (xa_nx s t < pa_na P ∧ xa_th P (xa_nx s t) = t)) ∧
  (∀ a, as_do s a → a < pa_na P ∧ a < xa_nx s (xa_th P a)) ∧
  (∀ a b, as_ea s a b → as_do s a ∧ as_do s b) ∧
  (∀ m, as_qu s m → as_do s m ∧ xa_op P m = 1 ∧ o = 1) ∧
  (∀ c m, as_me s c = m + 1 → as_do s m ∧ xa_wr P m c) ∧
  (∀ t l m, (xa_lm s t).2 l = m + 1 → as_do s m)
theorem up_same {α : Type} {f : Nat → α} {r : Nat} {v : α} : up_1 f r v r = v := if_pos rfl
theorem up_ne {α : Type} {f : Nat → α} {r a : Nat} {v : α} (h : a ≠ r) : up_1 f r v a = f a := if_neg h
theorem up_comm {α : Type} {f : Nat → α} {r r' : Nat} {v v' : α} (h : r ≠ r') : up_1 (up_1 f r v) r' v' = up_1 (up_1 f r' v') r v := by
  funext a
  unfold up_1
  by_cases h1 : a = r
  · subst h1
    rw [if_neg h, if_pos rfl, if_pos rfl]
  · rw [if_neg h1, if_neg h1]
theorem up_true {f : Nat → Prop} {r a : Nat} : up_1 f r True a ↔ a = r ∨ f a := by
  unfold up_1
  by_cases h : a = r
  · simp [h]
  · simp [h]
theorem up_false {f : Nat → Prop} {r a : Nat} : up_1 f r False a ↔ a ≠ r ∧ f a := by
  unfold up_1
  by_cases h : a = r
  · simp [h]
  · simp [h]
theorem xa_in_0 {P : PA} {o : Nat} (W : xa_wf P) : xa_in P o (xa_0 P) :=
  ⟨W.1, fun _ h => h.elim, fun _ _ h => h.elim, fun _ h => h.elim, fun _ _ h => (Nat.noConfusion h), fun t l m h => by
    have := W.2.2.2.2.2.1 t l
    change (pa_ks P t).1.2 l = m + 1 at h
    omega⟩
/-- what is seen is done -/
theorem xa_se_do {P : PA} {V : Nat → Bool} {o : Nat} {s : AS} {t m : Nat} (I : xa_in P o s) (hs : xa_se P V o s t (m + 1)) : as_do s m ∧ xa_wr P m (xa_ob P (xa_nx s t)) ∧ (xa_op P (xa_nx s t) = 0 ∨ xa_op P (xa_nx s t) = 2) := by
  unfold xa_se at hs
  by_cases h0 : xa_op P (xa_nx s t) = 0 ∨ xa_op P (xa_nx s t) = 2
  · rw [if_pos h0] at hs
    by_cases ho : o = 0 ∨ (o = 2 ∧ V (xa_ob P (xa_nx s t)) = true)
    · rw [if_pos ho] at hs
      have := (I.2.2.2.2.1 _ _ hs.symm)
      exact ⟨this.1, this.2, h0⟩
    · rw [if_neg ho] at hs
      by_cases h1' : o = 1
      · rw [if_pos h1'] at hs
        obtain ⟨m', h3, h4, -⟩ | ⟨-, h3⟩ := hs
        · obtain rfl : m = m' := by omega
          have := I.2.2.2.1 m h4.1
          exact ⟨this.1, ⟨this.2.1, h4.2.2⟩, h0⟩
        · have := (I.2.2.2.2.1 _ _ h3.symm)
          exact ⟨this.1, this.2, h0⟩
      · rw [if_neg h1'] at hs
        obtain ⟨h3 | ⟨m', h3, h4, h5⟩, -⟩ := hs
        · omega
        · obtain rfl : m = m' := by omega
          exact ⟨h4, h5, h0⟩
  · rw [if_neg h0] at hs
    omega
theorem xa_lk_do {P : PA} {V : Nat → Bool} {o : Nat} {s : AS} {t n w l : Nat} (hw : ∀ m, w = m + 1 → as_do s m) (h : xa_lk P V o s t n w l) : as_do s l := by
  obtain ⟨-, h⟩ | ⟨-, -, -, h⟩ | ⟨h1, h2, h3⟩ | ⟨-, -, -, h, -⟩ := h
  · exact h
  · exact h
  · exact hw l h3
  · exact h
theorem xa_ah_do {P : PA} {V : Nat → Bool} {o : Nat} {s : AS} {t n w a : Nat} (I : xa_in P o s) (hw : ∀ m, w = m + 1 → as_do s m) (h : xa_ah P V o s t n w a) : as_do s a := by
  obtain ⟨l, h1, rfl | h2⟩ := h
  · exact xa_lk_do hw h1
  · exact (I.2.2.1 _ _ h2).2
/-! projections -/
theorem xa_ac_th {P : PA} {V : Nat → Bool} {o : Nat} {s : AS} {t w : Nat} : as_th (xa_ac P V o s t w) = up_1 (as_th s) t (pa_kc P (xa_nx s t) (xa_rd P (xa_lm s t) (xa_nx s t) w (xa_vs s w))) := rfl
theorem xa_ac_do {P : PA} {V : Nat → Bool} {o : Nat} {s : AS} {t w : Nat} : as_do (xa_ac P V o s t w) = up_1 (as_do s) (xa_nx s t) True := rfl
theorem xa_ac_ea {P : PA} {V : Nat → Bool} {o : Nat} {s : AS} {t w : Nat} : as_ea (xa_ac P V o s t w) = up_1 (as_ea s) (xa_nx s t) (xa_ah P V o s t (xa_nx s t) w) := rfl
theorem xa_ac_nx_ne {P : PA} {V : Nat → Bool} {o : Nat} {s : AS} {t w t' : Nat} (h : t' ≠ t) : xa_nx (xa_ac P V o s t w) t' = xa_nx s t' := by
  unfold xa_nx
  rw [xa_ac_th, up_ne h]
theorem xa_ac_lm_ne {P : PA} {V : Nat → Bool} {o : Nat} {s : AS} {t w t' : Nat} (h : t' ≠ t) : xa_lm (xa_ac P V o s t w) t' = xa_lm s t' := by
  unfold xa_lm
  rw [xa_ac_th, up_ne h]
theorem xa_ac_nx {P : PA} {V : Nat → Bool} {o : Nat} {s : AS} {t w : Nat} : xa_nx (xa_ac P V o s t w) t = (pa_kc P (xa_nx s t) (xa_rd P (xa_lm s t) (xa_nx s t) w (xa_vs s w))).2 := by
  unfold xa_nx
  rw [xa_ac_th, up_same]
  rfl
theorem xa_ac_lm {P : PA} {V : Nat → Bool} {o : Nat} {s : AS} {t w : Nat} : xa_lm (xa_ac P V o s t w) t = (pa_kc P (xa_nx s t) (xa_rd P (xa_lm s t) (xa_nx s t) w (xa_vs s w))).1 := by
  unfold xa_lm
  rw [xa_ac_th, up_same]
  rfl
theorem xa_in_ac {P : PA} {V : Nat → Bool} {o : Nat} {s : AS} {t w : Nat} (W : xa_wf P) (I : xa_in P o s) (he : xa_en P V s t) (hs : xa_se P V o s t w) : xa_in P o (xa_ac P V o s t w) := by
  have htn : xa_th P (xa_nx s t) = t := by
    obtain h | h := I.1 t he.1
    · have := he.2.1; have := W.2.2.2.1; omega
    · exact h.2
  have hk := W.2.1 (xa_nx s t) (xa_rd P (xa_lm s t) (xa_nx s t) w (xa_vs s w)) he.2.1
  refine ⟨?_, ?_, ?_, ?_, ?_, ?_⟩
  · intro t' ht'
    by_cases h : t' = t
    · subst h
      rw [xa_ac_nx]
      obtain h | h := hk
      · exact Or.inl h
      · exact Or.inr ⟨h.1, h.2.1.trans htn⟩
    · rw [xa_ac_nx_ne h]
      exact I.1 t' ht'
  · intro a ha
    rw [xa_ac_do, up_true] at ha
    obtain rfl | ha := ha
    · refine ⟨he.2.1, ?_⟩
      rw [htn, xa_ac_nx]
      have := he.2.1; have := W.2.2.2.1
      omega
    · obtain ⟨h1, h2⟩ := I.2.1 a ha
      refine ⟨h1, ?_⟩
      by_cases h : xa_th P a = t
      · rw [h, xa_ac_nx]
        rw [h] at h2
        have := he.2.1; have := W.2.2.2.1
        omega
      · rw [xa_ac_nx_ne h]
        exact h2
  · intro a b hab
    rw [xa_ac_ea] at hab
    rw [xa_ac_do, up_true, up_true]
    by_cases h : a = xa_nx s t
    · subst h
      rw [up_same] at hab
      exact ⟨Or.inl rfl, Or.inr (xa_ah_do I (fun m hm => (xa_se_do I (hm ▸ hs)).1) hab)⟩
    · rw [up_ne h] at hab
      have := I.2.2.1 a b hab
      exact ⟨Or.inr this.1, Or.inr this.2⟩
  · intro m hm
    rw [xa_ac_do, up_true]
    change (if xa_op P (xa_nx s t) = 1 ∧ o = 1 then up_1 (as_qu s) (xa_nx s t) True else as_qu s) m at hm
    by_cases h : xa_op P (xa_nx s t) = 1 ∧ o = 1
    · rw [if_pos h, up_true] at hm
      obtain rfl | hm := hm
      · exact ⟨Or.inl rfl, h⟩
      · have := I.2.2.2.1 m hm
        exact ⟨Or.inr this.1, this.2⟩
    · rw [if_neg h] at hm
      have := I.2.2.2.1 m hm
      exact ⟨Or.inr this.1, this.2⟩
  · intro c m hm
    rw [xa_ac_do, up_true]
    change (if xa_op P (xa_nx s t) = 1 ∧ (o = 0 ∨ (o = 2 ∧ V (xa_ob P (xa_nx s t)) = true)) then up_1 (as_me s) (xa_ob P (xa_nx s t)) (xa_nx s t + 1) else as_me s) c = m + 1 at hm
    split at hm
    · rename_i h
      by_cases hc : c = xa_ob P (xa_nx s t)
      · subst hc
        rw [up_same] at hm
        obtain rfl : m = xa_nx s t := by omega
        exact ⟨Or.inl rfl, h.1, rfl⟩
      · rw [up_ne hc] at hm
        have := I.2.2.2.2.1 c m hm
        exact ⟨Or.inr this.1, this.2⟩
    · have := I.2.2.2.2.1 c m hm
      exact ⟨Or.inr this.1, this.2⟩
  · intro t' l m hm
    rw [xa_ac_do, up_true]
    by_cases h : t' = t
    · subst h
      rw [xa_ac_lm] at hm
      obtain h | h := W.2.2.2.2.1 (xa_nx s t') (xa_rd P (xa_lm s t') (xa_nx s t') w (xa_vs s w)) l
      · omega
      · rw [h] at hm
        unfold xa_rd at hm
        by_cases h0 : xa_op P (xa_nx s t') = 0 ∨ xa_op P (xa_nx s t') = 2
        · rw [if_pos h0] at hm
          change up_1 (xa_lm s t').2 (xa_tl P (xa_nx s t')) (if xa_op P (xa_nx s t') = 0 then w else 0) l = m + 1 at hm
          by_cases hl : l = xa_tl P (xa_nx s t')
          · rw [hl, up_same] at hm
            split at hm
            · subst hm
              exact Or.inr (xa_se_do I hs).1
            · omega
          · rw [up_ne hl] at hm
            exact Or.inr (I.2.2.2.2.2 t' l m hm)
        · rw [if_neg h0] at hm
          exact Or.inr (I.2.2.2.2.2 t' l m hm)
    · rw [xa_ac_lm_ne h] at hm
      exact Or.inr (I.2.2.2.2.2 t' l m hm)
theorem xa_in_em {P : PA} {o : Nat} {s : AS} {t m : Nat} (I : xa_in P o s) (hf : xa_fi P s t m) : xa_in P o (xa_em P s m) := by
  refine ⟨I.1, I.2.1, I.2.2.1, ?_, ?_, I.2.2.2.2.2⟩
  · intro m' hm
    change up_1 (as_qu s) m False m' at hm
    rw [up_false] at hm
    exact I.2.2.2.1 m' hm.2
  · intro c m' hm
    change up_1 (as_me s) (xa_ob P m) (m + 1) c = m' + 1 at hm
    by_cases hc : c = xa_ob P m
    · subst hc
      rw [up_same] at hm
      obtain rfl : m' = m := by omega
      have := I.2.2.2.1 _ hf.2.1
      exact ⟨this.1, this.2.1, rfl⟩
    · rw [up_ne hc] at hm
      exact I.2.2.2.2.1 c m' hm
