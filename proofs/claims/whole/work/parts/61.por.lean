/-! ===== an action that may be done at once: it can be moved to the front of a run ===== -/
theorem do_ne {f : Nat → Prop} {a b : Nat} (h1 : f a) (h2 : ¬ f b) : a ≠ b := fun e => h2 (e ▸ h1)
def xa_hu (P : PA) (V : Nat → Bool) (o : Nat) (s : AS) (t : Nat) : Prop :=
  t < pa_nt P ∧ xa_nx s t < pa_na P ∧ (xa_op P (xa_nx s t) = 5 ∨ (xa_op P (xa_nx s t) = 1 ∧ (o = 1 ∨ (o = 2 ∧ V (xa_ob P (xa_nx s t)) = false))))
theorem xa_hu_en {P : PA} {V : Nat → Bool} {o : Nat} {s : AS} {t : Nat} (h : xa_hu P V o s t) : xa_en P V s t :=
  ⟨h.1, h.2.1, fun e => by have := h.2.2; omega, fun e => by have := h.2.2; omega, fun e => by have := h.2.2; omega, fun e => by have := h.2.2; omega⟩
theorem xa_hu_se {P : PA} {V : Nat → Bool} {o : Nat} {s : AS} {t : Nat} (h : xa_hu P V o s t) : xa_se P V o s t 0 := by
  unfold xa_se
  rw [if_neg (by have := h.2.2; omega)]
theorem xa_hu_me {P : PA} {V : Nat → Bool} {o : Nat} {s : AS} {t w : Nat} (h : xa_hu P V o s t) : as_me (xa_ac P V o s t w) = as_me s := by
  show (if xa_op P (xa_nx s t) = 1 ∧ (o = 0 ∨ (o = 2 ∧ V (xa_ob P (xa_nx s t)) = true)) then up_1 (as_me s) (xa_ob P (xa_nx s t)) (xa_nx s t + 1) else as_me s) = as_me s
  rw [if_neg]
  rintro ⟨h1, h2⟩
  obtain h3 | ⟨-, h3 | ⟨h3, h4⟩⟩ := h.2.2
  · omega
  · omega
  · obtain h5 | ⟨-, h5⟩ := h2
    · omega
    · rw [h4] at h5; cases h5
theorem xa_hu_ho {P : PA} {V : Nat → Bool} {o : Nat} {s : AS} {t w : Nat} (h : xa_hu P V o s t) : as_ho (xa_ac P V o s t w) = as_ho s := by
  show (if xa_op P (xa_nx s t) = 3 then up_1 (as_ho s) (xa_ob P (xa_nx s t)) (t + 1) else if xa_op P (xa_nx s t) = 4 then up_1 (as_ho s) (xa_ob P (xa_nx s t)) 0 else as_ho s) = as_ho s
  have := h.2.2
  rw [if_neg (by omega), if_neg (by omega)]
theorem xa_nx_th {P : PA} {o : Nat} {s : AS} {t : Nat} (W : xa_wf P) (I : xa_in P o s) (h1 : t < pa_nt P) (h2 : xa_nx s t < pa_na P) : xa_th P (xa_nx s t) = t := by
  obtain h | h := I.1 t h1
  · have := W.2.2.2.1; omega
  · exact h.2
theorem xa_nx_nd {P : PA} {o : Nat} {s : AS} {t : Nat} (W : xa_wf P) (I : xa_in P o s) (h1 : t < pa_nt P) (h2 : xa_nx s t < pa_na P) : ¬ as_do s (xa_nx s t) := by
  intro h
  have := (I.2.1 _ h).2
  rw [xa_nx_th W I h1 h2] at this
  omega
theorem xa_hu_qu {P : PA} {V : Nat → Bool} {o : Nat} {s : AS} {t w m : Nat} : as_qu (xa_ac P V o s t w) m ↔ (as_qu s m ∨ (m = xa_nx s t ∧ xa_op P (xa_nx s t) = 1 ∧ o = 1)) := by
  show (if xa_op P (xa_nx s t) = 1 ∧ o = 1 then up_1 (as_qu s) (xa_nx s t) True else as_qu s) m ↔ _
  by_cases h : xa_op P (xa_nx s t) = 1 ∧ o = 1
  · rw [if_pos h, up_true]
    constructor
    · rintro (h1 | h1)
      · exact Or.inr ⟨h1, h⟩
      · exact Or.inl h1
    · rintro (h1 | h1)
      · exact Or.inr h1
      · exact Or.inl h1.1
  · rw [if_neg h]
    constructor
    · exact Or.inl
    · rintro (h1 | h1)
      · exact h1
      · exact (h h1.2).elim
theorem xa_hu_lk {P : PA} {V : Nat → Bool} {o : Nat} {s : AS} {t t' n' w l : Nat} (W : xa_wf P) (I : xa_in P o s) (hh : xa_hu P V o s t) (hne : t' ≠ t) : xa_lk P V o (xa_ac P V o s t 0) t' n' w l ↔ xa_lk P V o s t' n' w l := by
  have htn := xa_nx_th W I hh.1 hh.2.1
  have hnd := xa_nx_nd W I hh.1 hh.2.1
  unfold xa_lk
  rw [xa_ac_do, up_true, xa_ac_lm_ne hne]
  constructor
  · rintro (⟨h1, h2 | h2⟩ | ⟨h1, h2, h3, h4 | h4⟩ | h | ⟨h1, h2, h3, h4 | h4, h5⟩)
    · subst h2; exact (hne (h1.symm.trans htn)).elim
    · exact Or.inl ⟨h1, h2⟩
    · subst h4; have := hh.2.2; omega
    · exact Or.inr (Or.inl ⟨h1, h2, h3, h4⟩)
    · exact Or.inr (Or.inr (Or.inl h))
    · subst h4
      obtain ⟨m, h6, h7, h8⟩ := h5
      have h9 := I.2.1 m (I.2.2.2.2.2 _ _ _ h6)
      have h10 := W.2.2.2.2.2.2 (by rw [h3]; exact hh.2.1)
      rw [h3, htn] at h10
      rw [h7, ← h10] at h9
      omega
    · exact Or.inr (Or.inr (Or.inr ⟨h1, h2, h3, h4, h5⟩))
  · rintro (⟨h1, h2⟩ | ⟨h1, h2, h3, h4⟩ | h | ⟨h1, h2, h3, h4, h5⟩)
    · exact Or.inl ⟨h1, Or.inr h2⟩
    · exact Or.inr (Or.inl ⟨h1, h2, h3, Or.inr h4⟩)
    · exact Or.inr (Or.inr (Or.inl h))
    · exact Or.inr (Or.inr (Or.inr ⟨h1, h2, h3, Or.inr h4, h5⟩))
theorem xa_hu_ah {P : PA} {V : Nat → Bool} {o : Nat} {s : AS} {t t' n' w a : Nat} (W : xa_wf P) (I : xa_in P o s) (hh : xa_hu P V o s t) (hne : t' ≠ t) (hw : ∀ m, w = m + 1 → as_do s m) : xa_ah P V o (xa_ac P V o s t 0) t' n' w a ↔ xa_ah P V o s t' n' w a := by
  have hnd := xa_nx_nd W I hh.1 hh.2.1
  unfold xa_ah
  constructor
  · rintro ⟨l, h1, h2⟩
    rw [xa_hu_lk W I hh hne] at h1
    refine ⟨l, h1, ?_⟩
    rw [xa_ac_ea, up_ne (do_ne (xa_lk_do hw h1) hnd)] at h2
    exact h2
  · rintro ⟨l, h1, h2⟩
    refine ⟨l, (xa_hu_lk W I hh hne).mpr h1, ?_⟩
    rw [xa_ac_ea, up_ne (do_ne (xa_lk_do hw h1) hnd)]
    exact h2
theorem xa_hu_hid {P : PA} {V : Nat → Bool} {o : Nat} {s : AS} {t t' n' c w : Nat} (W : xa_wf P) (I : xa_in P o s) (hh : xa_hu P V o s t) (hne : t' ≠ t) : xa_hid P V o (xa_ac P V o s t 0) t' n' c w ↔ xa_hid P V o s t' n' c w := by
  have hnd := xa_nx_nd W I hh.1 hh.2.1
  have h0 : ∀ m, (0 : Nat) = m + 1 → as_do s m := fun m h => by omega
  unfold xa_hid
  constructor
  · rintro ⟨a, h1, h2, h3, h4⟩
    rw [xa_hu_ah W I hh hne h0] at h3
    have h5 := xa_ah_do I h0 h3
    rw [xa_ac_ea, up_ne (do_ne h5 hnd)] at h4
    exact ⟨a, h1, h5, h3, h4⟩
  · rintro ⟨a, h1, h2, h3, h4⟩
    refine ⟨a, h1, ?_, (xa_hu_ah W I hh hne h0).mpr h3, ?_⟩
    · rw [xa_ac_do, up_true]; exact Or.inr h2
    · rw [xa_ac_ea, up_ne (do_ne h2 hnd)]
      exact h4
theorem xa_hu_qc {P : PA} {V : Nat → Bool} {o : Nat} {s : AS} {t t' c m : Nat} (W : xa_wf P) (I : xa_in P o s) (hh : xa_hu P V o s t) (hne : t' ≠ t) : xa_qc P (xa_ac P V o s t 0) t' c m ↔ xa_qc P s t' c m := by
  have htn := xa_nx_th W I hh.1 hh.2.1
  unfold xa_qc
  rw [xa_hu_qu]
  constructor
  · rintro ⟨h1 | ⟨h1, h2⟩, h3, h4⟩
    · exact ⟨h1, h3, h4⟩
    · subst h1; exact (hne (h3.symm.trans htn)).elim
  · rintro ⟨h1, h3, h4⟩
    exact ⟨Or.inl h1, h3, h4⟩
theorem xa_hu_qe {P : PA} {V : Nat → Bool} {o : Nat} {s : AS} {t t' : Nat} (W : xa_wf P) (I : xa_in P o s) (hh : xa_hu P V o s t) (hne : t' ≠ t) (h : xa_qe P s t') : xa_qe P (xa_ac P V o s t 0) t' := by
  have htn := xa_nx_th W I hh.1 hh.2.1
  intro m h1 h2
  rw [xa_hu_qu] at h1
  obtain h1 | ⟨h1, -⟩ := h1
  · exact h m h1 h2
  · subst h1; exact hne (h2.symm.trans htn)
theorem xa_hu_se' {P : PA} {V : Nat → Bool} {o : Nat} {s : AS} {t t' w : Nat} (W : xa_wf P) (I : xa_in P o s) (hh : xa_hu P V o s t) (hne : t' ≠ t) (h : xa_se P V o s t' w) : xa_se P V o (xa_ac P V o s t 0) t' w := by
  unfold xa_se at h ⊢
  rw [xa_ac_nx_ne hne, xa_hu_me hh]
  split at h
  · rename_i h1
    rw [if_pos h1]
    split at h
    · rename_i h2
      rw [if_pos h2]; exact h
    · rename_i h2
      rw [if_neg h2]
      split at h
      · rename_i h3
        rw [if_pos h3]
        simp only [xa_hu_qc W I hh hne]
        exact h
      · rename_i h3
        rw [if_neg h3, xa_hu_hid W I hh hne]
        refine ⟨?_, h.2⟩
        obtain h4 | ⟨m, h4, h5, h6⟩ := h.1
        · exact Or.inl h4
        · exact Or.inr ⟨m, h4, by rw [xa_ac_do, up_true]; exact Or.inr h5, h6⟩
  · rename_i h1
    rw [if_neg h1]; exact h
theorem xa_hu_en' {P : PA} {V : Nat → Bool} {o : Nat} {s : AS} {t t' : Nat} (W : xa_wf P) (I : xa_in P o s) (hh : xa_hu P V o s t) (hne : t' ≠ t) (h : xa_en P V s t') : xa_en P V (xa_ac P V o s t 0) t' := by
  unfold xa_en at h ⊢
  rw [xa_ac_nx_ne hne, xa_ac_lm_ne hne, xa_hu_ho hh]
  exact ⟨h.1, h.2.1, fun a b => xa_hu_qe W I hh hne (h.2.2.1 a b), h.2.2.2.1, fun a => ⟨(h.2.2.2.2.1 a).1, xa_hu_qe W I hh hne (h.2.2.2.2.1 a).2⟩, fun a => xa_hu_qe W I hh hne (h.2.2.2.2.2 a)⟩
theorem as_ext {s s' : AS} (h1 : as_th s = as_th s') (h2 : as_ho s = as_ho s') (h3 : as_do s = as_do s') (h4 : as_qu s = as_qu s') (h5 : as_me s = as_me s') (h6 : as_wv s = as_wv s') (h7 : as_ea s = as_ea s') (h8 : as_sa s = as_sa s') : s = s' := by
  obtain ⟨a1, a2, a3, a4, a5, a6, a7, a8⟩ := s
  obtain ⟨b1, b2, b3, b4, b5, b6, b7, b8⟩ := s'
  cases h1; cases h2; cases h3; cases h4; cases h5; cases h6; cases h7; cases h8
  rfl
theorem xa_ac_wv {P : PA} {V : Nat → Bool} {o : Nat} {s : AS} {t w : Nat} : as_wv (xa_ac P V o s t w) = if xa_op P (xa_nx s t) = 1 then up_1 (as_wv s) (xa_nx s t) (pa_ws P (xa_nx s t) (xa_lm s t)) else as_wv s := rfl
theorem xa_ac_me {P : PA} {V : Nat → Bool} {o : Nat} {s : AS} {t w : Nat} : as_me (xa_ac P V o s t w) = if xa_op P (xa_nx s t) = 1 ∧ (o = 0 ∨ (o = 2 ∧ V (xa_ob P (xa_nx s t)) = true)) then up_1 (as_me s) (xa_ob P (xa_nx s t)) (xa_nx s t + 1) else as_me s := rfl
theorem xa_ac_ho {P : PA} {V : Nat → Bool} {o : Nat} {s : AS} {t w : Nat} : as_ho (xa_ac P V o s t w) = if xa_op P (xa_nx s t) = 3 then up_1 (as_ho s) (xa_ob P (xa_nx s t)) (t + 1) else if xa_op P (xa_nx s t) = 4 then up_1 (as_ho s) (xa_ob P (xa_nx s t)) 0 else as_ho s := rfl
theorem xa_ac_qu {P : PA} {V : Nat → Bool} {o : Nat} {s : AS} {t w : Nat} : as_qu (xa_ac P V o s t w) = if xa_op P (xa_nx s t) = 1 ∧ o = 1 then up_1 (as_qu s) (xa_nx s t) True else as_qu s := rfl
theorem xa_ac_sa {P : PA} {V : Nat → Bool} {o : Nat} {s : AS} {t w : Nat} : as_sa (xa_ac P V o s t w) = up_1 (as_sa s) (xa_nx s t) w := rfl
theorem xa_vs_ac {P : PA} {V : Nat → Bool} {o : Nat} {s : AS} {t w w' : Nat} (h : ¬ as_do s (xa_nx s t)) (hw : ∀ m, w = m + 1 → as_do s m) : xa_vs (xa_ac P V o s t w') w = xa_vs s w := by
  unfold xa_vs
  split
  · rfl
  · rename_i h0
    rw [xa_ac_wv]
    split
    · rw [up_ne]
      intro e
      exact h (e ▸ hw (w - 1) (by omega))
    · rfl
theorem xa_dia {P : PA} {V : Nat → Bool} {o : Nat} {s : AS} {t t' w : Nat} (W : xa_wf P) (I : xa_in P o s) (hh : xa_hu P V o s t) (hne : t' ≠ t) (he : xa_en P V s t') (hs : xa_se P V o s t' w) : xa_ac P V o (xa_ac P V o s t 0) t' w = xa_ac P V o (xa_ac P V o s t' w) t 0 := by
  have htn := xa_nx_th W I hh.1 hh.2.1
  have hnd := xa_nx_nd W I hh.1 hh.2.1
  have htn' := xa_nx_th W I he.1 he.2.1
  have hnd' := xa_nx_nd W I he.1 he.2.1
  have hnn : xa_nx s t ≠ xa_nx s t' := fun e => hne (by rw [← htn', ← e, htn])
  have hw : ∀ m, w = m + 1 → as_do s m := fun m hm => (xa_se_do I (hm ▸ hs)).1
  have hh' : xa_hu P V o (xa_ac P V o s t' w) t := by
    unfold xa_hu
    rw [xa_ac_nx_ne (Ne.symm hne)]
    exact hh
  have h0 : ∀ m, (0 : Nat) = m + 1 → as_do s m := fun m h => by omega
  apply as_ext
  · rw [xa_ac_th, xa_ac_th, xa_ac_th, xa_ac_th, xa_ac_nx_ne hne, xa_ac_nx_ne (Ne.symm hne), xa_ac_lm_ne hne, xa_ac_lm_ne (Ne.symm hne), xa_vs_ac hnd hw, xa_vs_ac hnd' h0, up_comm (Ne.symm hne)]
  · rw [xa_hu_ho hh', xa_ac_ho (s := xa_ac P V o s t 0), xa_hu_ho hh, xa_ac_nx_ne hne]
    rfl
  · rw [xa_ac_do, xa_ac_do, xa_ac_do, xa_ac_do, xa_ac_nx_ne hne, xa_ac_nx_ne (Ne.symm hne), up_comm hnn]
  · rw [xa_ac_qu, xa_ac_qu, xa_ac_qu, xa_ac_qu, xa_ac_nx_ne hne, xa_ac_nx_ne (Ne.symm hne)]
    by_cases a : xa_op P (xa_nx s t) = 1 ∧ o = 1
    · by_cases b : xa_op P (xa_nx s t') = 1 ∧ o = 1
      · simp only [if_pos a, if_pos b]; rw [up_comm hnn]
      · simp only [if_pos a, if_neg b]
    · by_cases b : xa_op P (xa_nx s t') = 1 ∧ o = 1
      · simp only [if_neg a, if_pos b]
      · simp only [if_neg a, if_neg b]
  · rw [xa_hu_me hh', xa_ac_me (s := xa_ac P V o s t 0), xa_hu_me hh, xa_ac_nx_ne hne]
    rfl
  · rw [xa_ac_wv, xa_ac_wv, xa_ac_wv, xa_ac_wv, xa_ac_nx_ne hne, xa_ac_nx_ne (Ne.symm hne), xa_ac_lm_ne hne, xa_ac_lm_ne (Ne.symm hne)]
    by_cases a : xa_op P (xa_nx s t) = 1
    · by_cases b : xa_op P (xa_nx s t') = 1
      · simp only [if_pos a, if_pos b]; rw [up_comm hnn]
      · simp only [if_pos a, if_neg b]
    · by_cases b : xa_op P (xa_nx s t') = 1
      · simp only [if_neg a, if_pos b]
      · simp only [if_neg a, if_neg b]
  · rw [xa_ac_ea, xa_ac_ea, xa_ac_ea, xa_ac_ea, xa_ac_nx_ne hne, xa_ac_nx_ne (Ne.symm hne)]
    rw [show xa_ah P V o (xa_ac P V o s t 0) t' (xa_nx s t') w = xa_ah P V o s t' (xa_nx s t') w from funext fun a => propext (xa_hu_ah W I hh hne hw)]
    rw [show xa_ah P V o (xa_ac P V o s t' w) t (xa_nx s t) 0 = xa_ah P V o s t (xa_nx s t) 0 from ?_, up_comm hnn]
    funext a
    apply propext
    have hlk : ∀ l, xa_lk P V o (xa_ac P V o s t' w) t (xa_nx s t) 0 l ↔ xa_lk P V o s t (xa_nx s t) 0 l := by
      intro l
      unfold xa_lk
      rw [xa_ac_do, up_true]
      have := hh.2.2
      constructor
      · rintro (⟨h1, h2 | h2⟩ | ⟨h1, -⟩ | ⟨h1, -⟩ | ⟨h1, -⟩)
        · subst h2; exact (hne (htn'.symm.trans h1)).elim
        · exact Or.inl ⟨h1, h2⟩
        · omega
        · omega
        · omega
      · rintro (⟨h1, h2⟩ | ⟨h1, -⟩ | ⟨h1, -⟩ | ⟨h1, -⟩)
        · exact Or.inl ⟨h1, Or.inr h2⟩
        · omega
        · omega
        · omega
    unfold xa_ah
    constructor
    · rintro ⟨l, h1, h2⟩
      rw [hlk] at h1
      rw [xa_ac_ea, up_ne (do_ne (xa_lk_do h0 h1) hnd')] at h2
      exact ⟨l, h1, h2⟩
    · rintro ⟨l, h1, h2⟩
      refine ⟨l, (hlk l).mpr h1, ?_⟩
      rw [xa_ac_ea, up_ne (do_ne (xa_lk_do h0 h1) hnd')]
      exact h2
  · rw [xa_ac_sa, xa_ac_sa, xa_ac_sa, xa_ac_sa, xa_ac_nx_ne hne, xa_ac_nx_ne (Ne.symm hne), up_comm hnn]
theorem xa_dia_em {P : PA} {V : Nat → Bool} {o : Nat} {s : AS} {t t' m : Nat} (W : xa_wf P) (I : xa_in P o s) (hh : xa_hu P V o s t) (hf : xa_fi P s t' m) : xa_fi P (xa_ac P V o s t 0) t' m ∧ xa_em P (xa_ac P V o s t 0) m = xa_ac P V o (xa_em P s m) t 0 := by
  have htn := xa_nx_th W I hh.1 hh.2.1
  have hnd := xa_nx_nd W I hh.1 hh.2.1
  have hmd := (I.2.2.2.1 m hf.2.1).1
  have hmn : m ≠ xa_nx s t := fun e => hnd (e ▸ hmd)
  constructor
  · refine ⟨hf.1, xa_hu_qu.mpr (Or.inl hf.2.1), hf.2.2.1, ?_⟩
    intro m' h1 h2 h3
    rw [xa_hu_qu] at h2
    obtain h2 | ⟨h2, -⟩ := h2
    · exact hf.2.2.2 m' h1 h2 h3
    · subst h2
      have h4 := (I.2.1 m hmd).2
      rw [hf.2.2.1, ← h3, htn] at h4
      omega
  · apply as_ext
    · rfl
    · rfl
    · rfl
    · show up_1 (as_qu (xa_ac P V o s t 0)) m False = _
      rw [xa_ac_qu, xa_ac_qu]
      show _ = if xa_op P (xa_nx s t) = 1 ∧ o = 1 then up_1 (up_1 (as_qu s) m False) (xa_nx s t) True else up_1 (as_qu s) m False
      split
      · rw [up_comm (Ne.symm hmn)]
      · rfl
    · show up_1 (as_me (xa_ac P V o s t 0)) (xa_ob P m) (m + 1) = _
      have hh' : xa_hu P V o (xa_em P s m) t := hh
      rw [xa_hu_me hh, xa_hu_me hh']
      rfl
    · rfl
    · rfl
    · rfl
/-- an action that may be done at once is the first of a run to the same end -/
theorem xa_por {P : PA} {V : Nat → Bool} {o t : Nat} (W : xa_wf P) : ∀ (p : List (Nat × Nat)) (s s' : AS), xa_in P o s → xa_hu P V o s t → xa_ph P V o p s s' → xa_end P V s' → ∃ p', xa_ph P V o p' (xa_ac P V o s t 0) s' := by
  intro p
  induction p with
  | nil =>
    intro s s' I hh hp he
    cases hp
    exact ((he t).1 (xa_hu_en hh)).elim
  | cons q p ih =>
    intro s s' I hh hp he
    obtain ⟨t', w⟩ := q
    obtain ⟨h1, h2, h3, h4⟩ | ⟨h1, h2, h3⟩ := hp
    · by_cases hne : t' = t
      · subst hne
        have h5 : w = 0 := by
          have h6 : xa_se P V o s t' w := h3
          unfold xa_se at h6
          rw [if_neg (by have := hh.2.2; omega)] at h6
          exact h6
        subst h5
        exact ⟨p, h4⟩
      · have I1 := xa_in_ac W I h2 h3
        have hh' : xa_hu P V o (xa_ac P V o s t' w) t := by
          unfold xa_hu
          rw [xa_ac_nx_ne (Ne.symm hne)]
          exact hh
        obtain ⟨p', hp'⟩ := ih _ _ I1 hh' h4 he
        refine ⟨(t', w) :: p', Or.inl ⟨h1, xa_hu_en' W I hh hne h2, xa_hu_se' W I hh hne h3, ?_⟩⟩
        show xa_ph P V o p' (xa_ac P V o (xa_ac P V o s t 0) t' w) s'
        rw [xa_dia W I hh hne h2 h3]
        exact hp'
    · obtain ⟨d1, d2⟩ := xa_dia_em W I hh h2
      have hh' : xa_hu P V o (xa_em P s (w - 10)) t := hh
      obtain ⟨p', hp'⟩ := ih _ _ (xa_in_em I h2) hh' h3 he
      refine ⟨(t', w) :: p', Or.inr ⟨h1, d1, ?_⟩⟩
      show xa_ph P V o p' (xa_em P (xa_ac P V o s t 0) (w - 10)) s'
      rw [d2]
      exact hp'
