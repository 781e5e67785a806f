/-! ===== the three longs and the mid picture: an action ===== -/
section
variable {K : Nat → Nat → Int32} {te ow : Nat → Nat} {na nt sz oc : Nat} {T C E : Int64} {a : AS}
theorem ao_1 : ao oc = 1 ↔ oc = 1 := by unfold ao; split <;> omega
theorem or_b1 {T : Int64} {k : Nat} (hk : k < 64) : fd (m_or T 1 (nI k)) k 1 = 1 := by
  rw [fd_or2 (by omega) (by omega) (by decide)]
  have := fd_lt (T := T) (k := k) (w := 1)
  obtain h | h : fd T k 1 = 0 ∨ fd T k 1 = 1 := by omega
  · rw [h]; decide
  · rw [h]; decide
theorem df_do {t k : Nat} (ht : t < 4) (h1 : 47 ≤ k) (w : Nat) : DF ow t k w := ⟨by unfold dis; omega, fun l hl _ => ⟨by unfold dis; omega, by unfold dis; omega⟩⟩
theorem df_ho {t k : Nat} (ht : t < 4) (h1 : 36 ≤ k) {w : Nat} (h2 : k + w ≤ 42) : DF ow t k w := ⟨by unfold dis; omega, fun l hl _ => ⟨by unfold dis; omega, by unfold dis; omega⟩⟩
theorem df_nx {t t' : Nat} (ht : t < 4) (ht' : t' < 4) (hne : t' ≠ t) : DF ow t (4 * t') 4 := ⟨by unfold dis; omega, fun l hl _ => ⟨by unfold dis; omega, by unfold dis; omega⟩⟩
theorem df_va {t l : Nat} (ht : t < 4) (hl : l < 5) (hne : ow l ≠ t) : DF ow t (16 + 4 * l) 4 := ⟨by unfold dis; omega, fun l' hl' h => by
  have : l ≠ l' := fun e => hne (e ▸ h)
  exact ⟨by unfold dis; omega, by unfold dis; omega⟩⟩
theorem df_pu {t l : Nat} (ht : t < 4) (hl : l < 5) (hne : ow l ≠ t) : DF ow t (42 + l) 1 := ⟨by unfold dis; omega, fun l' hl' h => by
  have : l ≠ l' := fun e => hne (e ▸ h)
  exact ⟨by unfold dis; omega, by unfold dis; omega⟩⟩
def A1 (K : Nat → Nat → Int32) (ow : Nat → Nat) (oc t : Nat) (T T1 : Int64) (lm' : LM) (a' : AS) : Prop :=
  DL ow T1 t lm' ∧ DP (KP K) oc ow T1 t lm' ∧ (oc ≠ 2 → ∀ l, l < 5 → d_pu T1 l = 0) ∧
  (∀ k w, DF ow t k w → (k + w ≤ 36 ∨ (42 ≤ k ∧ k + w ≤ 55)) → fd T1 k w = fd T k w) ∧
  (∀ m, m < 2 → d_ho T1 m = as_ho a' m) ∧ (∀ n, n < 8 → (d_qu T1 n = 1 ↔ as_qu a' n))
theorem q_a1 (Z : KW K te ow na nt sz) (S : KS K na nt oc) (I : xa_in (KP K) (ao oc) a) (D : DC K ow nt oc T C E a) {t w : Nat} {s : Int32} (he : xa_en (KP K) (kv K) a t) (hs : xa_se (KP K) (kv K) (ao oc) a t w) (hsw : 2 ≤ oc → sw s w) :
    A1 K ow oc t T (m_a1 K T C (nI t) s) (xa_rd (KP K) (xa_lm a t) (xa_nx a t) w (xa_vs a w)) (xa_ac (KP K) (kv K) (ao oc) a t w) := by
  have hna := Z.1
  have hnt := Z.2.1
  have hsz := Z.2.2.1
  have hoc := S.2.1
  have ht : t < nt := by have := he.1; rw [kp_nt Z] at this; exact this
  have hn : xa_nx a t < na := by have := he.2.1; rw [kp_na Z] at this; exact this
  obtain ⟨e, op, c1, c2, c3, c4, c5, c6, c7, c8, c9, c10, c11⟩ := q_at Z D ht hn
  have hte := q_te Z I ht hn c8
  obtain ⟨-, op', f1, f2, f3, f4, f5, f6, f7, f8, f9, -⟩ := Z.2.2.2.2.2.2.2.1 e c1
  have hop : op' = op := by rw [c5, nI_eq (by omega) (by omega)] at f1; exact f1.symm
  rw [hop] at f6 f7 f8 f9
  obtain ⟨-, D1, D2⟩ := D.1 t ht
  have hho : op ≠ 3 → op ≠ 4 → as_ho (xa_ac (KP K) (kv K) (ao oc) a t w) = as_ho a := fun h3 h4 => by
    rw [xa_ac_ho, c7, if_neg h3, if_neg h4]
  have hqu : ¬ (op = 1 ∧ oc = 1) → as_qu (xa_ac (KP K) (kv K) (ao oc) a t w) = as_qu a := fun h => by
    rw [xa_ac_qu, c7, if_neg (fun h' => h ⟨h'.1, ao_1.mp h'.2⟩)]
  have hrd : ¬ (op = 0 ∨ op = 2) → xa_rd (KP K) (xa_lm a t) (xa_nx a t) w (xa_vs a w) = xa_lm a t := fun h => by
    unfold xa_rd
    rw [c7, if_neg h]
  have same : op ≠ 3 → op ≠ 4 → ¬ (op = 1 ∧ oc = 1) → ¬ (op = 0 ∨ op = 2) → A1 K ow oc t T T (xa_rd (KP K) (xa_lm a t) (xa_nx a t) w (xa_vs a w)) (xa_ac (KP K) (kv K) (ao oc) a t w) := by
    intro h3 h4 h1 h0
    rw [A1, hrd h0, hho h3 h4, hqu h1]
    exact ⟨D1, D2, D.2.2.1, fun _ _ _ _ => rfl, D.2.2.2.1, D.2.2.2.2.2.1⟩
  have sets : (op = 0 ∨ op = 2) → ∀ p : Int32, (oc = 2 → ((p = 0 ∧ ¬ (op = 0 ∧ ∃ m, w = m + 1 ∧ xa_th (KP K) m = pa_mk (KP K) ∧ pa_dn (KP K) < m)) ∨ (p = 1 ∧ op = 0 ∧ ∃ m, w = m + 1 ∧ xa_th (KP K) m = pa_mk (KP K) ∧ pa_dn (KP K) < m))) → (oc ≠ 2 → p = 0) → A1 K ow oc t T (m_sl T (K 1 e) (m_sv K T C (nI t) (K 4 e) s) p) (xa_rd (KP K) (xa_lm a t) (xa_nx a t) w (xa_vs a w)) (xa_ac (KP K) (kv K) (ao oc) a t w) := by
    intro h02 p hp hp0
    obtain ⟨c, d1, d2⟩ := f6 (by omega)
    obtain ⟨l, l1, l2, l3⟩ := f8 (by omega)
    rw [hte] at l3
    have hob : xa_ob (KP K) (xa_nx a t) = c := (q_kv Z c3 d1 d2).1
    obtain ⟨v, v1, v2, v3⟩ := q_sv Z S I D ht d1 (by rw [c7]; exact h02) hob hs hsw
    have htl : xa_tl (KP K) (xa_nx a t) = l := by
      show ix (K 1 (ix (K 8 (xa_nx a t)))) = l
      rw [c3, l2, ix_nI (by omega)]
    rw [A1, d2, l2, v2, hho (by omega) (by omega), hqu (by omega)]
    have hlm : xa_rd (KP K) (xa_lm a t) (xa_nx a t) w (xa_vs a w) = (up_1 (xa_lm a t).1 l (nI v), up_1 (xa_lm a t).2 l (if op = 0 then w else 0)) := by
      unfold xa_rd
      rw [c7, if_pos h02, htl, v3]
    rw [hlm]
    refine ⟨fun l' h1 h2 => ?_, fun h0 l' h1 h2 => ?_, fun h0 l' h1 => ?_, fun k w' h1 _ => sl_ne l1 (by omega) (h1.2 l l1 l3).1 (h1.2 l l1 l3).2, fun m hm => ?_, fun n' hn' => ?_⟩
    · by_cases hl : l' = l
      · subst hl
        show up_1 (xa_lm a t).1 l' (nI v) l' = _ ∧ _
        rw [up_same, sl_va h1 (by omega)]
        exact ⟨rfl, v1⟩
      · show up_1 (xa_lm a t).1 l (nI v) l' = _ ∧ _
        rw [up_ne hl, sl_va_ne l1 h1 (by omega) hl]
        exact D1 l' h1 h2
    · unfold xa_pub
      show _ ↔ ∃ m, up_1 (xa_lm a t).2 l (if op = 0 then w else 0) l' = m + 1 ∧ _
      by_cases hl : l' = l
      · subst hl
        rw [up_same, sl_pu h1]
        obtain ⟨k1, k2⟩ | ⟨k1, k2, k3⟩ := hp h0
        · rw [if_pos k1]
          constructor
          · intro h; omega
          · rintro ⟨m, m1, m2⟩
            exfalso
            split at m1
            · rename_i h
              exact k2 ⟨h, m, m1, m2⟩
            · omega
        · rw [if_neg (by rw [k1]; decide), if_pos k2]
          exact ⟨fun _ => k3, fun _ => rfl⟩
      · rw [up_ne hl, sl_pu_ne l1 h1 (by omega) hl]
        exact D2 h0 l' h1 h2
    · by_cases hl : l' = l
      · subst hl
        rw [sl_pu h1, if_pos (hp0 h0)]
      · rw [sl_pu_ne l1 h1 (by omega) hl]
        exact D.2.2.1 h0 l' h1
    · have : d_ho (m_sl T (nI l) (nI v) p) m = d_ho T m := sl_ne l1 (by omega) (by unfold dis; omega) (by unfold dis; omega)
      rw [this]; exact D.2.2.2.1 m hm
    · have : d_qu (m_sl T (nI l) (nI v) p) n' = d_qu T n' := sl_ne l1 (by omega) (by unfold dis; omega) (by unfold dis; omega)
      rw [this]; exact D.2.2.2.2.2.1 n' hn'
  unfold m_a1
  rw [c11, c10, ix_nI (show e < 2 ^ 31 by omega)]
  by_cases h0 : op = 0
  · rw [if_pos (by rw [h0]; rfl)]
    refine sets (Or.inl h0) _ (fun ho2 => ?_) (fun ho2 => ?_)
    · obtain ⟨k1, k2⟩ | ⟨k1, k2⟩ := q_ip Z S ho2 (hsw (by omega)) (fun m hm => by
        have := (I.2.1 m (xa_se_do I (hm ▸ hs)).1).1
        rw [kp_na Z] at this
        exact this)
      · exact Or.inl ⟨k1, fun h => k2 h.2⟩
      · exact Or.inr ⟨k1, h0, k2⟩
    · unfold m_ip
      rw [if_neg]
      rintro ⟨h1, -⟩
      rw [S.1, show (2 : Int32) = nI 2 from rfl, nI_eq (by omega) (by omega)] at h1
      exact ho2 h1
  · rw [if_neg (show ¬ nI op = 0 by rw [show (0 : Int32) = nI 0 from rfl, i_op c6 (by omega)]; exact h0)]
    by_cases h1 : op = 1
    · rw [if_pos (by rw [h1]; rfl), c9]
      unfold m_wT
      by_cases ho1 : oc = 1
      · rw [if_pos (by rw [S.1, ho1]; rfl), show (55 : Int32) + nI (xa_nx a t) = nI (55 + xa_nx a t) from nI_add 55 _, A1, hrd (by omega), hho (by omega) (by omega)]
        have hne : ∀ k w', (k + w' ≤ 55) → fd (m_or T 1 (nI (55 + xa_nx a t))) k w' = fd T k w' := fun k w' h => fd_or_ne (w := 1) (by decide) (by omega) (by omega)
        refine ⟨fun l' g1 g2 => ?_, fun g0 => by omega, fun g0 l' g1 => ?_, fun k w' g1 g2 => hne k w' (by omega), fun m hm => ?_, fun n' hn' => ?_⟩
        · unfold d_va
          rw [hne _ _ (by omega)]
          exact D1 l' g1 g2
        · unfold d_pu
          rw [hne _ _ (by omega)]
          exact D.2.2.1 g0 l' g1
        · unfold d_ho
          rw [hne _ _ (by omega)]
          exact D.2.2.2.1 m hm
        · rw [xa_ac_qu, c7, if_pos ⟨h1, ao_1.mpr ho1⟩, up_true]
          unfold d_qu
          by_cases hnn : n' = xa_nx a t
          · subst hnn
            rw [or_b1 (by omega)]
            exact ⟨fun _ => Or.inl rfl, fun _ => rfl⟩
          · rw [fd_or_ne (w := 1) (by decide) (by omega) (by omega)]
            have := D.2.2.2.2.2.1 n' hn'
            unfold d_qu at this
            rw [this]
            exact ⟨Or.inr, fun h => h.elim (fun h => absurd h hnn) id⟩
      · rw [if_neg (by rw [S.1, show (1 : Int32) = nI 1 from rfl, nI_eq (by omega) (by omega)]; exact ho1)]
        exact same (by omega) (by omega) (by omega) (by omega)
    · rw [if_neg (show ¬ nI op = 1 by rw [show (1 : Int32) = nI 1 from rfl, i_op c6 (by omega)]; exact h1)]
      by_cases h2 : op = 2
      · rw [if_pos (by rw [h2]; rfl)]
        exact sets (Or.inr h2) 0 (fun _ => Or.inl ⟨rfl, fun h => by omega⟩) (fun _ => rfl)
      · rw [if_neg (show ¬ nI op = 2 by rw [show (2 : Int32) = nI 2 from rfl, i_op c6 (by omega)]; exact h2)]
        by_cases h3 : op = 3
        · rw [if_pos (by rw [h3]; rfl)]
          obtain ⟨m, m1, m2⟩ := f7 (Or.inl h3)
          have hob : xa_ob (KP K) (xa_nx a t) = m := by
            show ix (K 4 (ix (K 8 (xa_nx a t)))) = m
            rw [c3, m2, ix_nI (by omega)]
          have hfree : d_ho T m = 0 := by
            rw [D.2.2.2.1 m m1, ← hob]
            exact (he.2.2.2.2.1 (c7.trans h3)).1
          have hv : ((nI t).toInt64 + 1).toBitVec.toNat = t + 1 := by
            rw [nI_l (by omega), lN_1]
            show (BitVec.ofNat 64 (t + 1)).toNat = t + 1
            rw [BitVec.toNat_ofNat]
            omega
          rw [m2, show (36 : Int32) + (3 : Int32) * nI m = nI (36 + 3 * m) from k_ma 36 3 m, A1, hrd (by omega), hqu (by omega)]
          have hne : ∀ k w', dis (36 + 3 * m) 3 k w' → fd (m_or T ((nI t).toInt64 + 1) (nI (36 + 3 * m))) k w' = fd T k w' := fun k w' h => fd_or_ne (w := 3) (by rw [hv]; omega) (by omega) h
          refine ⟨fun l' g1 g2 => ?_, fun g0 l' g1 g2 => ?_, fun g0 l' g1 => ?_, fun k w' g1 g2 => hne k w' (by unfold dis; omega), fun m' hm' => ?_, fun n' hn' => ?_⟩
          · unfold d_va
            rw [hne _ _ (by unfold dis; omega)]
            exact D1 l' g1 g2
          · unfold d_pu
            rw [hne _ _ (by unfold dis; omega)]
            exact D2 g0 l' g1 g2
          · unfold d_pu
            rw [hne _ _ (by unfold dis; omega)]
            exact D.2.2.1 g0 l' g1
          · rw [xa_ac_ho, c7, if_pos h3, hob]
            by_cases hmm : m' = m
            · subst hmm
              rw [up_same]
              unfold d_ho at hfree ⊢
              rw [fd_or (by omega) (by omega) hfree (by rw [hv]; omega), hv]
            · rw [up_ne hmm, ← D.2.2.2.1 m' hm']
              exact hne _ _ (by unfold dis; omega)
          · unfold d_qu
            rw [hne _ _ (by unfold dis; omega)]
            exact D.2.2.2.2.2.1 n' hn'
        · rw [if_neg (show ¬ nI op = 3 by rw [show (3 : Int32) = nI 3 from rfl, i_op c6 (by omega)]; exact h3)]
          by_cases h4 : op = 4
          · rw [if_pos (by rw [h4]; rfl)]
            obtain ⟨m, m1, m2⟩ := f7 (Or.inr h4)
            have hob : xa_ob (KP K) (xa_nx a t) = m := by
              show ix (K 4 (ix (K 8 (xa_nx a t)))) = m
              rw [c3, m2, ix_nI (by omega)]
            rw [m2, show (36 : Int32) + (3 : Int32) * nI m = nI (36 + 3 * m) from k_ma 36 3 m, A1, hrd (by omega), hqu (by omega)]
            have hne : ∀ k w', dis (36 + 3 * m) 3 k w' → fd (m_cl T 7 (nI (36 + 3 * m))) k w' = fd T k w' := fun k w' h => fd_cl_ne (w := 3) (by decide) (by omega) h
            refine ⟨fun l' g1 g2 => ?_, fun g0 l' g1 g2 => ?_, fun g0 l' g1 => ?_, fun k w' g1 g2 => hne k w' (by unfold dis; omega), fun m' hm' => ?_, fun n' hn' => ?_⟩
            · unfold d_va
              rw [hne _ _ (by unfold dis; omega)]
              exact D1 l' g1 g2
            · unfold d_pu
              rw [hne _ _ (by unfold dis; omega)]
              exact D2 g0 l' g1 g2
            · unfold d_pu
              rw [hne _ _ (by unfold dis; omega)]
              exact D.2.2.1 g0 l' g1
            · rw [xa_ac_ho, c7, if_neg h3, if_pos h4, hob]
              by_cases hmm : m' = m
              · subst hmm
                rw [up_same]
                exact fd_cl (by omega) (by omega) (by decide)
              · rw [up_ne hmm, ← D.2.2.2.1 m' hm']
                exact hne _ _ (by unfold dis; omega)
            · unfold d_qu
              rw [hne _ _ (by unfold dis; omega)]
              exact D.2.2.2.2.2.1 n' hn'
          · rw [if_neg (show ¬ nI op = 4 by rw [show (4 : Int32) = nI 4 from rfl, i_op c6 (by omega)]; exact h4)]
            exact same h3 h4 (by omega) (by omega)
def DT (K : Nat → Nat → Int32) (ow : Nat → Nat) (nt oc : Nat) (T : Int64) (a : AS) : Prop :=
  (∀ t, t < nt → d_nx T t = xa_nx a t ∧ DL ow T t (xa_lm a t) ∧ DP (KP K) oc ow T t (xa_lm a t)) ∧
  (∀ l, l < 5 → nt ≤ ow l → d_va T l = 0) ∧ (oc ≠ 2 → ∀ l, l < 5 → d_pu T l = 0) ∧
  (∀ m, m < 2 → d_ho T m = as_ho a m) ∧
  (∀ n, n < 8 → (d_do T n = 1 ↔ as_do a n)) ∧ (∀ n, n < 8 → (d_qu T n = 1 ↔ as_qu a n))
theorem q_aT (Z : KW K te ow na nt sz) (S : KS K na nt oc) (I : xa_in (KP K) (ao oc) a) (D : DC K ow nt oc T C E a) {t w : Nat} {s : Int32} (he : xa_en (KP K) (kv K) a t) (hs : xa_se (KP K) (kv K) (ao oc) a t w) (hsw : 2 ≤ oc → sw s w) :
    DT K ow nt oc (m_aT K T C (nI t) s) (xa_ac (KP K) (kv K) (ao oc) a t w) := by
  have hna := Z.1
  have hnt := Z.2.1
  have hsz := Z.2.2.1
  obtain ⟨u1, u2, u3, u4, u5, u6⟩ := q_a1 Z S I D he hs hsw
  have ht : t < nt := by have := he.1; rw [kp_nt Z] at this; exact this
  have hn : xa_nx a t < na := by have := he.2.1; rw [kp_na Z] at this; exact this
  obtain ⟨e, op, c1, c2, c3, c4, c5, c6, c7, c8, c9, c10, c11⟩ := q_at Z D ht hn
  have hte := q_te Z I ht hn c8
  obtain ⟨-, op', f1, f2, f3, f4, f5, -⟩ := Z.2.2.2.2.2.2.2.1 e c1
  have hop : op' = op := by rw [c5, nI_eq (by omega) (by omega)] at f1; exact f1.symm
  obtain ⟨g1, g2⟩ := f5 (by omega)
  unfold m_aT
  rw [c9, c10, nI_1, and_63 (by omega), show (47 : Int32) + nI (xa_nx a t) = nI (47 + xa_nx a t) from nI_add 47 _]
  have hT2 : ∀ k w', dis (47 + xa_nx a t) 1 k w' → fd (m_or (m_a1 K T C (nI t) s) 1 (nI (47 + xa_nx a t))) k w' = fd (m_a1 K T C (nI t) s) k w' := fun k w' h => fd_or_ne (w := 1) (by decide) (by omega) h
  obtain ⟨v1, v2, v3, v4, v5⟩ := go_dec Z (P := KP K) (oc := oc) ht 64 (m_or (m_a1 K T C (nI t) s) 1 (nI (47 + xa_nx a t))) (xa_rd (KP K) (xa_lm a t) (xa_nx a t) w (xa_vs a w)) (e + 1) g1 (g2.trans hte) (by
    intro l h1 h2
    unfold d_va
    rw [hT2 _ _ (by unfold dis; omega)]
    exact u1 l h1 h2) (by
    intro h0 l h1 h2
    unfold d_pu
    rw [hT2 _ _ (by unfold dis; omega)]
    exact u2 h0 l h1 h2)
  have hkc : pa_kc (KP K) (xa_nx a t) (xa_rd (KP K) (xa_lm a t) (xa_nx a t) w (xa_vs a w)) = w_go K 64 (xa_rd (KP K) (xa_lm a t) (xa_nx a t) w (xa_vs a w)) (e + 1) := by
    show w_go K 64 _ (ix (K 8 (xa_nx a t)) + 1) = _
    rw [c3]
  refine ⟨fun t' ht' => ?_, fun l h1 h2 => ?_, fun h0 l h1 => ?_, fun m hm => ?_, fun n' hn' => ?_, fun n' hn' => ?_⟩
  · by_cases htt : t' = t
    · subst htt
      rw [xa_ac_nx, xa_ac_lm, hkc]
      exact ⟨v3, v1, v2⟩
    · rw [xa_ac_nx_ne htt, xa_ac_lm_ne htt]
      obtain ⟨k1, k2, k3⟩ := D.1 t' ht'
      refine ⟨?_, fun l h1 h2 => ?_, fun h0 l h1 h2 => ?_⟩
      · rw [← k1]
        unfold d_nx
        rw [v5 _ _ (df_nx (by omega) (by omega) htt), hT2 _ _ (by unfold dis; omega), u4 _ _ (df_nx (by omega) (by omega) htt) (by omega)]
      · have hne : ow l ≠ t := fun h => htt (h2.symm.trans h)
        have : d_va (m_go K (nI t) 64 (m_or (m_a1 K T C (nI t) s) 1 (nI (47 + xa_nx a t))) (nI (e + 1))) l = d_va T l := by
          unfold d_va
          rw [v5 _ _ (df_va (by omega) h1 hne), hT2 _ _ (by unfold dis; omega), u4 _ _ (df_va (by omega) h1 hne) (by omega)]
        rw [this]; exact k2 l h1 h2
      · have hne : ow l ≠ t := fun h => htt (h2.symm.trans h)
        have : d_pu (m_go K (nI t) 64 (m_or (m_a1 K T C (nI t) s) 1 (nI (47 + xa_nx a t))) (nI (e + 1))) l = d_pu T l := by
          unfold d_pu
          rw [v5 _ _ (df_pu (by omega) h1 hne), hT2 _ _ (by unfold dis; omega), u4 _ _ (df_pu (by omega) h1 hne) (by omega)]
        rw [this]; exact k3 h0 l h1 h2
  · have hne : ow l ≠ t := by omega
    rw [← D.2.1 l h1 h2]
    unfold d_va
    rw [v5 _ _ (df_va (by omega) h1 hne), hT2 _ _ (by unfold dis; omega), u4 _ _ (df_va (by omega) h1 hne) (by omega)]
  · refine v4 h0 l h1 ?_
    rw [← u3 h0 l h1]
    exact hT2 _ _ (by unfold dis; omega)
  · rw [← u5 m hm]
    unfold d_ho
    rw [v5 _ _ (df_ho (by omega) (by omega) (by omega)), hT2 _ _ (by unfold dis; omega)]
  · rw [xa_ac_do, up_true]
    unfold d_do
    rw [v5 _ _ (df_do (by omega) (by omega) 1)]
    by_cases hnn : n' = xa_nx a t
    · subst hnn
      rw [or_b1 (by omega)]
      exact ⟨fun _ => Or.inl rfl, fun _ => rfl⟩
    · rw [hT2 _ _ (by unfold dis; omega), u4 _ _ (df_do (by omega) (by omega) 1) (by omega)]
      have := D.2.2.2.2.1 n' hn'
      unfold d_do at this
      rw [this]
      exact ⟨Or.inr, fun h => h.elim (fun h => absurd h hnn) id⟩
  · rw [← u6 n' hn']
    unfold d_qu
    rw [v5 _ _ (df_do (by omega) (by omega) 1), hT2 _ _ (by unfold dis; omega)]
end
