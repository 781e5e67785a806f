/-! ===== the mid picture once more: what is before what, ranks ===== -/
/-- before is transitive; of one thread the later has the earlier before it -/
def xa_t (P : PA) (a : AS) : Prop :=
  (∀ n l k, as_ea a n l → as_ea a l k → as_ea a n k) ∧
  (∀ l l', as_do a l → as_do a l' → xa_th P l = xa_th P l' → l < l' → as_ea a l' l) ∧
  (∀ n k, as_ea a n k → xa_th P k = xa_th P n → k < n)
section
variable {P : PA} {V : Nat → Bool} {o : Nat} {s : AS} {t w : Nat}
theorem xa_t_0 : xa_t P (xa_0 P) := ⟨fun _ _ _ h => h.elim, fun _ _ h => h.elim, fun _ _ h => h.elim⟩
theorem xa_t_em {m : Nat} (T : xa_t P s) : xa_t P (xa_em P s m) := T
theorem xa_t_ac (W : xa_wf P) (I : xa_in P o s) (T : xa_t P s) (he : xa_en P V s t) (hs : xa_se P V o s t w) : xa_t P (xa_ac P V o s t w) := by
  have hn := xa_nx_nd W I he.1 he.2.1
  have hth := xa_nx_th W I he.1 he.2.1
  have hw : ∀ m, w = m + 1 → as_do s m := fun m hm => (xa_se_do I (hm ▸ hs)).1
  have ndo : ∀ {x}, as_do s x → x ≠ xa_nx s t := fun hx e => hn (e ▸ hx)
  unfold xa_t
  rw [xa_ac_ea, xa_ac_do]
  refine ⟨fun n l k h1 h2 => ?_, fun l l' h1 h2 h3 h4 => ?_, fun n k h1 h2 => ?_⟩
  · by_cases e : n = xa_nx s t
    · subst e
      rw [up_same] at h1 ⊢
      have hl := ndo (xa_ah_do I hw h1)
      rw [up_ne hl] at h2
      obtain ⟨l0, a1, rfl | a2⟩ := h1
      · exact ⟨l, a1, Or.inr h2⟩
      · exact ⟨l0, a1, Or.inr (T.1 _ _ _ a2 h2)⟩
    · rw [up_ne e] at h1 ⊢
      have hl := ndo (I.2.2.1 _ _ h1).2
      rw [up_ne hl] at h2
      exact T.1 _ _ _ h1 h2
  · rw [up_true] at h1 h2
    by_cases e' : l' = xa_nx s t
    · subst e'
      obtain e | h1 := h1
      · omega
      · rw [up_same]
        exact ⟨l, Or.inl ⟨h3.trans hth, h1⟩, Or.inl rfl⟩
    · rw [up_ne e']
      obtain h2 | h2 := h2
      · exact absurd h2 e'
      · obtain e | h1 := h1
        · subst e
          have := (I.2.1 _ h2).2
          rw [← h3, hth] at this
          omega
        · exact T.2.1 _ _ h1 h2 h3 h4
  · by_cases e : n = xa_nx s t
    · subst e
      rw [up_same] at h1
      have := (I.2.1 _ (xa_ah_do I hw h1)).2
      rw [h2, hth] at this
      exact this
    · rw [up_ne e] at h1
      exact T.2.2 _ _ h1 h2
end
/-- how many actions are done, how many writes have left their queues -/
noncomputable def dn1 (p : Prop) : Nat := @ite _ p (Classical.propDecidable _) 1 0
theorem dn1_t {p : Prop} (h : p) : dn1 p = 1 := @if_pos _ (Classical.propDecidable _) h _ _ _
theorem dn1_f {p : Prop} (h : ¬ p) : dn1 p = 0 := @if_neg _ (Classical.propDecidable _) h _ _ _
theorem dn1_le {p : Prop} : dn1 p ≤ 1 := by
  by_cases h : p
  · rw [dn1_t h]; exact Nat.le_refl _
  · rw [dn1_f h]; exact Nat.zero_le _
theorem dn1_c {p q : Prop} (h : p ↔ q) : dn1 p = dn1 q := by rw [propext h]
noncomputable def rkd (a : AS) : Nat := sum8 (fun n => dn1 (as_do a n))
noncomputable def rke (P : PA) (o : Nat) (a : AS) : Nat := sum8 (fun n => dn1 (o = 1 ∧ xa_op P n = 1 ∧ as_do a n ∧ ¬ as_qu a n))
noncomputable def rka (P : PA) (o : Nat) (a : AS) : Nat := rkd a + rke P o a
theorem sum8_eq {g g' : Nat → Nat} (h : ∀ m, m < 8 → g m = g' m) : sum8 g = sum8 g' := by
  unfold sum8
  rw [h 0 (by omega), h 1 (by omega), h 2 (by omega), h 3 (by omega), h 4 (by omega), h 5 (by omega), h 6 (by omega), h 7 (by omega)]
theorem sum8_le {g : Nat → Nat} (h : ∀ m, m < 8 → g m ≤ 1) : sum8 g ≤ 8 := by
  unfold sum8
  have := h 0 (by omega); have := h 1 (by omega); have := h 2 (by omega); have := h 3 (by omega); have := h 4 (by omega); have := h 5 (by omega); have := h 6 (by omega); have := h 7 (by omega)
  omega
theorem sum8_lt {g : Nat → Nat} {n : Nat} (hn : n < 8) (h0 : g n = 0) (h : ∀ m, m < 8 → g m ≤ 1) : sum8 g ≤ 7 := by
  have := sum8_inc (g := g) (g' := fun m => if m = n then 1 else g m) hn (by rw [if_pos rfl, h0]) (fun m _ hm => if_neg hm)
  have := sum8_le (g := fun m => if m = n then 1 else g m) (fun m hm => by
    show (if m = n then 1 else g m) ≤ 1
    split
    · exact Nat.le_refl _
    · exact h m hm)
  omega
section
variable {P : PA} {V : Nat → Bool} {o : Nat} {s : AS} {t w : Nat}
theorem rka_le : rka P o s ≤ 16 := by
  have := sum8_le (g := fun n => dn1 (as_do s n)) (fun m _ => dn1_le)
  have := sum8_le (g := fun n => dn1 (o = 1 ∧ xa_op P n = 1 ∧ as_do s n ∧ ¬ as_qu s n)) (fun m _ => dn1_le)
  unfold rka rkd rke
  omega
theorem rka_ac (W : xa_wf P) (I : xa_in P o s) (he : xa_en P V s t) : rkd (xa_ac P V o s t w) = rkd s + 1 ∧ rka P o (xa_ac P V o s t w) = rka P o s + 1 ∧ rkd s ≤ 7 := by
  have hn := xa_nx_nd W I he.1 he.2.1
  have h8 : xa_nx s t < 8 := by have := he.2.1; have := W.2.2.2.1; omega
  have e1 : rkd (xa_ac P V o s t w) = rkd s + 1 := by
    refine sum8_inc h8 ?_ (fun m _ hm => ?_)
    · show dn1 (as_do (xa_ac P V o s t w) (xa_nx s t)) = dn1 (as_do s (xa_nx s t)) + 1
      rw [xa_ac_do, up_same, dn1_t trivial, dn1_f hn]
    · show dn1 (as_do (xa_ac P V o s t w) m) = dn1 (as_do s m)
      rw [xa_ac_do, up_ne hm]
  have e2 : rke P o (xa_ac P V o s t w) = rke P o s := by
    refine sum8_eq (fun m _ => dn1_c ?_)
    rw [xa_ac_do, up_true, xa_hu_qu]
    constructor
    · rintro ⟨a1, a2, a3, a4⟩
      refine ⟨a1, a2, ?_, fun q => a4 (Or.inl q)⟩
      obtain e | a3 := a3
      · exact absurd (Or.inr ⟨e, e ▸ a2, a1⟩) a4
      · exact a3
    · rintro ⟨a1, a2, a3, a4⟩
      refine ⟨a1, a2, Or.inr a3, ?_⟩
      rintro (q | ⟨q, -⟩)
      · exact a4 q
      · exact hn (q ▸ a3)
  refine ⟨e1, ?_, ?_⟩
  · unfold rka
    rw [e1, e2]
    omega
  · exact sum8_lt h8 (dn1_f hn) (fun m _ => dn1_le)
theorem rka_em {m : Nat} (W : xa_wf P) (I : xa_in P o s) (hf : xa_fi P s t m) : rkd (xa_em P s m) = rkd s ∧ rka P o (xa_em P s m) = rka P o s + 1 := by
  obtain ⟨q1, q2, q3⟩ := I.2.2.2.1 m hf.2.1
  have h8 : m < 8 := by have := (I.2.1 m q1).1; have := W.2.2.2.1; omega
  refine ⟨rfl, ?_⟩
  have e2 : rke P o (xa_em P s m) = rke P o s + 1 := by
    refine sum8_inc h8 ?_ (fun k _ hk => dn1_c ?_)
    · show dn1 (o = 1 ∧ xa_op P m = 1 ∧ as_do s m ∧ ¬ up_1 (as_qu s) m False m) = dn1 (o = 1 ∧ xa_op P m = 1 ∧ as_do s m ∧ ¬ as_qu s m) + 1
      rw [dn1_t ⟨q3, q2, q1, by rw [up_same]; exact id⟩, dn1_f (fun c => c.2.2.2 hf.2.1)]
    · show (o = 1 ∧ xa_op P k = 1 ∧ as_do s k ∧ ¬ up_1 (as_qu s) m False k) ↔ _
      rw [up_ne hk]
  unfold rka
  rw [e2]
  show rkd s + (rke P o s + 1) = _
  omega
end
