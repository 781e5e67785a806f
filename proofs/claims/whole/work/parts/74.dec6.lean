/-! ===== the three longs and the mid picture: an action, an emptying, the start, the outcome ===== -/
section
variable {K : Nat → Nat → Int32} {te ow : Nat → Nat} {na nt sz oc : Nat} {T C E : Int64} {a : AS}
theorem pc_ce {C : Int64} {c v : Nat} (hc : c < 6) (hv : v < 16) : d_ce (m_pc C (nI c) (nI v)) c = v := by
  unfold m_pc d_ce
  rw [show (4 : Int32) * nI c = nI (4 * c) from pk_mul 4 c, fd_set (by omega) (by omega) (by decide) (by rw [lg_nI (by omega)]; omega), lg_nI (by omega)]
theorem pc_ne {C : Int64} {c v k w : Nat} (hc : c < 6) (hv : v < 16) (h : dis (4 * c) 4 k w) : fd (m_pc C (nI c) (nI v)) k w = fd C k w := by
  unfold m_pc
  rw [show (4 : Int32) * nI c = nI (4 * c) from pk_mul 4 c, fd_set_ne (w := 4) (by omega) (by decide) (by rw [lg_nI (by omega)]; omega) h]
def DCC (K : Nat → Nat → Int32) (oc : Nat) (C : Int64) (a : AS) : Prop :=
  (oc ≤ 1 → ∀ c, c < 6 → nI (d_ce C c) = xa_vs a (as_me a c) ∧ d_ce C c ≤ 9) ∧
  (oc = 1 → ∀ n, n < 8 → (as_qu a n → nI (d_wb C n) = as_wv a n ∧ d_wb C n ≤ 9) ∧ (¬ as_qu a n → d_wb C n = 0)) ∧
  (2 ≤ oc → (∀ n, n < 8 → (as_do a n → xa_op (KP K) n = 1 → nI (d_wb C n) = as_wv a n ∧ d_wb C n ≤ 9) ∧ (¬ as_do a n → d_wb C n = 0)) ∧ (∀ c, c < 6 → (oc = 3 ∨ kv K c = true) → d_ce C c = as_me a c))
theorem q_aC (Z : KW K te ow na nt sz) (S : KS K na nt oc) (I : xa_in (KP K) (ao oc) a) (D : DC K ow nt oc T C E a) {t w : Nat} (he : xa_en (KP K) (kv K) a t) :
    DCC K oc (m_aC K T C (nI t)) (xa_ac (KP K) (kv K) (ao oc) a t w) := by
  have hna := Z.1
  have hnt := Z.2.1
  have hsz := Z.2.2.1
  have hoc := S.2.1
  have ht : t < nt := by have := he.1; rw [kp_nt Z] at this; exact this
  have hn : xa_nx a t < na := by have := he.2.1; rw [kp_na Z] at this; exact this
  obtain ⟨e, op, c1, c2, c3, c4, c5, c6, c7, c8, c9, c10, c11⟩ := q_at Z D ht hn
  have hte := q_te Z I ht hn c8
  have W := kp_wf Z
  have hnd := xa_nx_nd W I he.1 he.2.1
  have hme0 : ∀ c m, as_me a c = m + 1 → as_do a m := fun c m h => (I.2.2.2.2.1 c m h).1
  have hvs : ∀ c, xa_vs (xa_ac (KP K) (kv K) (ao oc) a t w) (as_me a c) = xa_vs a (as_me a c) := fun c => xa_vs_ac hnd (hme0 c)
  obtain ⟨D7, D8, D9⟩ := D.2.2.2.2.2.2
  unfold m_aC
  rw [c11, c10, ix_nI (show e < 2 ^ 31 by omega), c9]
  by_cases h1 : op = 1
  · rw [if_pos (by rw [h1]; rfl)]
    obtain ⟨-, op', f1, f2, f3, f4, f5, f6, f7, f8, f9, f10, -⟩ := Z.2.2.2.2.2.2.2.1 e c1
    have hop : op' = op := by rw [c5, nI_eq (by omega) (by omega)] at f1; exact f1.symm
    rw [hop] at f6 f10
    obtain ⟨c, d1, d2⟩ := f6 (by omega)
    obtain ⟨b1, b2⟩ := f10 (by omega)
    rw [hte] at b1
    obtain ⟨v, v1, v2, v3⟩ := w_su_v (K := K) (e := e) (D.1 t ht).2.1 b1 b2
    have hob : xa_ob (KP K) (xa_nx a t) = c := (q_kv Z c3 d1 d2).1
    have hkv := (q_kv Z c3 d1 d2).2
    have hws : pa_ws (KP K) (xa_nx a t) (xa_lm a t) = nI v := by
      show w_su K (xa_lm a t) (ix (K 8 (xa_nx a t))) = nI v
      rw [c3, v2]
    have hwv : as_wv (xa_ac (KP K) (kv K) (ao oc) a t w) = up_1 (as_wv a) (xa_nx a t) (nI v) := by
      rw [xa_ac_wv, c7, if_pos h1, hws]
    rw [v3 (by omega), d2]
    unfold m_wC
    rw [S.1]
    by_cases o0 : oc = 0
    · rw [if_pos (by rw [o0]; rfl)]
      refine ⟨fun _ c' hc' => ?_, fun h => by omega, fun h => by omega⟩
      rw [xa_ac_me, c7, if_pos ⟨h1, Or.inl (by rw [o0]; rfl)⟩, hob]
      by_cases hcc : c' = c
      · subst hcc
        rw [pc_ce hc' (by omega), up_same]
        refine ⟨?_, v1⟩
        unfold xa_vs
        rw [if_neg (by omega), hwv, Nat.add_sub_cancel, up_same]
      · rw [up_ne hcc, hvs]
        unfold d_ce
        rw [pc_ne d1 (by omega) (by unfold dis; omega)]
        exact D7 (by omega) c' hc'
    · rw [if_neg (by rw [show (0 : Int32) = nI 0 from rfl, nI_eq (by omega) (by omega)]; exact o0), show (24 : Int32) + (4 : Int32) * nI (xa_nx a t) = nI (24 + 4 * xa_nx a t) from k_ma 24 4 _]
      have hvv : (nI v).toInt64.toBitVec.toNat < 2 ^ 4 := by rw [lg_nI (by omega)]; omega
      have hor : ∀ k w', dis (24 + 4 * xa_nx a t) 4 k w' → fd (m_or C (nI v).toInt64 (nI (24 + 4 * xa_nx a t))) k w' = fd C k w' := fun k w' h => fd_or_ne (w := 4) hvv (by omega) h
      by_cases o1 : oc = 1
      · rw [if_pos (by rw [o1]; rfl)]
        refine ⟨fun _ c' hc' => ?_, fun _ n' hn' => ?_, fun h => by omega⟩
        · rw [xa_ac_me, c7, if_neg (by rintro ⟨-, h | h⟩ <;> (rw [o1] at h; first | exact absurd h (by decide) | exact absurd h.1 (by decide))), hvs]
          unfold d_ce
          rw [hor _ _ (by unfold dis; omega)]
          exact D7 (by omega) c' hc'
        · rw [xa_ac_qu, c7, if_pos ⟨h1, ao_1.mpr o1⟩, up_true, hwv]
          by_cases hnn : n' = xa_nx a t
          · subst hnn
            rw [up_same]
            have h0 : d_wb C (xa_nx a t) = 0 := (D8 o1 _ hn').2 (fun h => hnd (I.2.2.2.1 _ h).1)
            have : d_wb (m_or C (nI v).toInt64 (nI (24 + 4 * xa_nx a t))) (xa_nx a t) = v := by
              unfold d_wb at h0 ⊢
              rw [fd_or (by omega) (by omega) h0 hvv, lg_nI (by omega)]
            rw [this]
            exact ⟨fun _ => ⟨rfl, v1⟩, fun h => absurd (Or.inl rfl) h⟩
          · rw [up_ne hnn]
            have : d_wb (m_or C (nI v).toInt64 (nI (24 + 4 * xa_nx a t))) n' = d_wb C n' := hor _ _ (by unfold dis; omega)
            rw [this]
            exact ⟨fun h => (D8 o1 n' hn').1 (h.elim (fun h => absurd h hnn) id), fun h => (D8 o1 n' hn').2 (fun h' => h (Or.inr h'))⟩
      · rw [if_neg (by rw [show (1 : Int32) = nI 1 from rfl, nI_eq (by omega) (by omega)]; exact o1)]
        have ho : 2 ≤ oc := by omega
        obtain ⟨W1, W2, -⟩ := D9 ho
        have hwb : ∀ C' : Int64, (∀ n', n' < 8 → d_wb C' n' = d_wb (m_or C (nI v).toInt64 (nI (24 + 4 * xa_nx a t))) n') → ∀ n', n' < 8 → (as_do (xa_ac (KP K) (kv K) (ao oc) a t w) n' → xa_op (KP K) n' = 1 → nI (d_wb C' n') = as_wv (xa_ac (KP K) (kv K) (ao oc) a t w) n' ∧ d_wb C' n' ≤ 9) ∧ (¬ as_do (xa_ac (KP K) (kv K) (ao oc) a t w) n' → d_wb C' n' = 0) := by
          intro C' hC' n' hn'
          rw [hC' n' hn', hwv, xa_ac_do, up_true]
          by_cases hnn : n' = xa_nx a t
          · subst hnn
            rw [up_same]
            have h0 : d_wb C (xa_nx a t) = 0 := (W1 _ hn').2 hnd
            have : d_wb (m_or C (nI v).toInt64 (nI (24 + 4 * xa_nx a t))) (xa_nx a t) = v := by
              unfold d_wb at h0 ⊢
              rw [fd_or (by omega) (by omega) h0 hvv, lg_nI (by omega)]
            rw [this]
            exact ⟨fun _ _ => ⟨rfl, v1⟩, fun h => absurd (Or.inl rfl) h⟩
          · rw [up_ne hnn]
            have : d_wb (m_or C (nI v).toInt64 (nI (24 + 4 * xa_nx a t))) n' = d_wb C n' := hor _ _ (by unfold dis; omega)
            rw [this]
            exact ⟨fun h => (W1 n' hn').1 (h.elim (fun h => absurd h hnn) id), fun h => (W1 n' hn').2 (fun h' => h (Or.inr h'))⟩
        by_cases hv : oc = 3 ∨ kv K c = true
        · have hv' : nI oc = 3 ∨ ¬ m_vo K (nI c) = 0 := by
            obtain h | h := hv
            · exact Or.inl (by rw [h]; rfl)
            · exact Or.inr (by rw [← d2]; exact hkv.mp h)
          rw [if_pos hv', nI_1]
          refine ⟨fun h => by omega, fun h => by omega, fun _ => ⟨hwb _ (fun n' hn' => pc_ne d1 (by omega) (by unfold dis; omega)), fun c' hc' hcv => ?_⟩⟩
          rw [xa_ac_me, c7, hob, if_pos ⟨h1, by
            obtain h | h := hv
            · exact Or.inl (by rw [h]; rfl)
            · by_cases h3 : oc = 3
              · exact Or.inl (by rw [h3]; rfl)
              · exact Or.inr ⟨by unfold ao; rw [if_neg h3]; omega, h⟩⟩]
          by_cases hcc : c' = c
          · subst hcc
            rw [pc_ce hc' (by omega), up_same]
          · rw [up_ne hcc]
            unfold d_ce
            rw [pc_ne d1 (by omega) (by unfold dis; omega), hor _ _ (by unfold dis; omega)]
            exact W2 c' hc' hcv
        · have hv' : ¬ (nI oc = 3 ∨ ¬ m_vo K (nI c) = 0) := by
            rintro (h | h)
            · rw [show (3 : Int32) = nI 3 from rfl, nI_eq (by omega) (by omega)] at h
              exact hv (Or.inl h)
            · exact hv (Or.inr (hkv.mpr (by rw [d2]; exact h)))
          rw [if_neg hv']
          refine ⟨fun h => by omega, fun h => by omega, fun _ => ⟨hwb _ (fun _ _ => rfl), fun c' hc' hcv => ?_⟩⟩
          rw [xa_ac_me, c7, hob, if_neg (by
            rintro ⟨-, h | h⟩
            · unfold ao at h; split at h
              · rename_i h3; exact hv (Or.inl h3)
              · omega
            · exact hv (Or.inr h.2))]
          unfold d_ce
          rw [hor _ _ (by unfold dis; omega)]
          exact W2 c' hc' hcv
  · rw [if_neg (show ¬ nI op = 1 by rw [show (1 : Int32) = nI 1 from rfl, i_op c6 (by omega)]; exact h1)]
    have hmm : as_me (xa_ac (KP K) (kv K) (ao oc) a t w) = as_me a := by rw [xa_ac_me, c7, if_neg (fun h => h1 h.1)]
    have hww : as_wv (xa_ac (KP K) (kv K) (ao oc) a t w) = as_wv a := by rw [xa_ac_wv, c7, if_neg h1]
    have hqq : as_qu (xa_ac (KP K) (kv K) (ao oc) a t w) = as_qu a := by rw [xa_ac_qu, c7, if_neg (fun h => h1 h.1)]
    refine ⟨fun h c hc => ?_, fun h n' hn' => ?_, fun h => ⟨fun n' hn' => ?_, fun c hc hv => ?_⟩⟩
    · rw [hmm, hvs]; exact D7 h c hc
    · rw [hqq, hww]; exact D8 h n' hn'
    · rw [hww, xa_ac_do, up_true]
      refine ⟨fun g1 g2 => ?_, fun g => ((D9 h).1 n' hn').2 (fun h' => g (Or.inr h'))⟩
      obtain g1 | g1 := g1
      · subst g1; rw [c7] at g2; exact absurd g2 h1
      · exact ((D9 h).1 n' hn').1 g1 g2
    · rw [hmm]; exact (D9 h).2.1 c hc hv
theorem q_aE (Z : KW K te ow na nt sz) (S : KS K na nt oc) (I : xa_in (KP K) (ao oc) a) (hd : xa_dd (KP K) a) (D : DC K ow nt oc T C E a) {t w : Nat} {s : Int32} (he : xa_en (KP K) (kv K) a t) (hs : xa_se (KP K) (kv K) (ao oc) a t w) (hsw : 2 ≤ oc → sw s w) (ho : 2 ≤ oc) :
    ∀ n m, n < 8 → m < 8 → (d_ea (m_aE K T E (nI t) s) n m = 1 ↔ as_ea (xa_ac (KP K) (kv K) (ao oc) a t w) n m) := by
  have hna := Z.1
  have hsz := Z.2.2.1
  have ht : t < nt := by have := he.1; rw [kp_nt Z] at this; exact this
  have hn : xa_nx a t < na := by have := he.2.1; rw [kp_na Z] at this; exact this
  obtain ⟨e, op, c1, c2, c3, c4, c5, c6, c7, c8, c9, c10, c11⟩ := q_at Z D ht hn
  have hte := q_te Z I ht hn c8
  have W := kp_wf Z
  have hoc := S.2.1
  have hnd := xa_nx_nd W I he.1 he.2.1
  obtain ⟨X, x1, x2, x3⟩ := q_ah Z S I hd D ho ht hn (c8.trans hte) (hsw ho) (fun m hm => (xa_se_do I (hm ▸ hs)).1)
  have W3 := (D.2.2.2.2.2.2.2.2 ho).2.2
  unfold m_aE
  rw [if_neg (by rw [S.1]; exact nI_nlt (b := 2) (by omega) (by omega)), c9, c10, ← c2, x2, show (8 : Int32) * nI (xa_nx a t) = nI (8 * xa_nx a t) from pk_mul 8 _]
  have hX : (nI X).toInt64.toBitVec.toNat = X := lg_nI (by omega)
  intro n m hn8 hm8
  rw [xa_ac_ea]
  by_cases hnn : n = xa_nx a t
  · subst hnn
    rw [up_same, ← x3 m hm8]
    unfold d_ea
    rw [← fd_1 hm8, fd_or2 (by omega) (by omega) (by rw [hX]; exact x1), hX, tb_or, fd_1 hm8]
    constructor
    · rintro (h | h)
      · exact absurd (I.2.2.1 _ _ ((W3 _ m hn8 hm8).mp h)).1 hnd
      · exact h
    · exact Or.inr
  · rw [up_ne hnn, ← W3 n m hn8 hm8]
    unfold d_ea
    rw [fd_or_ne (w := 8) (by rw [hX]; exact x1) (by omega) (by omega)]
theorem q_act (Z : KW K te ow na nt sz) (S : KS K na nt oc) (I : xa_in (KP K) (ao oc) a) (hd : xa_dd (KP K) a) (D : DC K ow nt oc T C E a) {t w : Nat} {s : Int32} (he : xa_en (KP K) (kv K) a t) (hs : xa_se (KP K) (kv K) (ao oc) a t w) (hsw : 2 ≤ oc → sw s w) :
    DC K ow nt oc (m_aT K T C (nI t) s) (m_aC K T C (nI t)) (m_aE K T E (nI t) s) (xa_ac (KP K) (kv K) (ao oc) a t w) := by
  obtain ⟨r1, r2, r3, r4, r5, r6⟩ := q_aT Z S I D he hs hsw
  obtain ⟨r7, r8, r9⟩ := q_aC (w := w) Z S I D he
  exact ⟨r1, r2, r3, r4, r5, r6, r7, r8, fun ho => ⟨(r9 ho).1, (r9 ho).2, q_aE Z S I hd D he hs hsw ho⟩⟩
theorem q_eq {X : Nat} (hX : X < 256) : ∀ n, n ≤ 8 → (m_eq (nI X) n (8 - n) = 8 ∧ ∀ i, 8 - n ≤ i → i < 8 → ¬ X.testBit i = true) ∨ (8 - n ≤ m_eq (nI X) n (8 - n) ∧ m_eq (nI X) n (8 - n) < 8 ∧ X.testBit (m_eq (nI X) n (8 - n)) = true ∧ ∀ i, 8 - n ≤ i → i < m_eq (nI X) n (8 - n) → ¬ X.testBit i = true) := by
  intro n
  induction n with
  | zero => intro _; exact Or.inl ⟨rfl, fun i h1 h2 => by omega⟩
  | succ n ih =>
    intro hn
    unfold m_eq
    by_cases hb : X.testBit (8 - (n + 1)) = true
    · rw [if_neg (by rw [nI_bit0 (by omega) (by omega), hb]; exact Bool.noConfusion)]
      exact Or.inr ⟨Nat.le_refl _, by omega, hb, fun i h1 h2 => by omega⟩
    · rw [if_pos (by rw [nI_bit0 (by omega) (by omega)]; exact Bool.eq_false_iff.mpr hb), show 8 - (n + 1) + 1 = 8 - n by omega]
      obtain ⟨h1, h2⟩ | ⟨h1, h2, h3, h4⟩ := ih (by omega)
      · refine Or.inl ⟨h1, fun i g1 g2 => ?_⟩
        by_cases hi : i = 8 - (n + 1)
        · rw [hi]; exact hb
        · exact h2 i (by omega) g2
      · refine Or.inr ⟨by omega, h2, h3, fun i g1 g2 => ?_⟩
        by_cases hi : i = 8 - (n + 1)
        · rw [hi]; exact hb
        · exact h4 i (by omega) g2
/-- a thread's queue: empty, or its first one is known -/
theorem q_fi (Z : KW K te ow na nt sz) (S : KS K na nt oc) (I : xa_in (KP K) (ao oc) a) (D : DC K ow nt oc T C E a) {t : Nat} (ht : t < nt) : (m_hq K T (nI t) = 0 ∧ ∀ m, ¬ xa_fi (KP K) a t m) ∨ (m_hq K T (nI t) = 1 ∧ xa_fi (KP K) a t (m_eq (m_qu K T (nI t)) 8 0) ∧ ∀ m, xa_fi (KP K) a t m → m = m_eq (m_qu K T (nI t)) 8 0) := by
  have hna := Z.1
  have hq := q_hq Z S I D ht
  obtain ⟨X, x1, x2, x3⟩ := q_qu Z S I D ht
  by_cases h : m_hq K T (nI t) = 0
  · exact Or.inl ⟨h, fun m hm => hq.mp h m hm.2.1 hm.2.2.1⟩
  · have h1 : m_hq K T (nI t) = 1 := by
      unfold m_hq at h ⊢
      split
      · rename_i h'; rw [if_pos h'] at h; exact absurd rfl h
      · rfl
    refine Or.inr ⟨h1, ?_⟩
    have hlt : ∀ m, as_qu a m → m < 8 := fun m hm => by
      have := (I.2.1 m (I.2.2.2.1 m hm).1).1
      rw [kp_na Z] at this
      omega
    rw [x2]
    obtain ⟨g1, g2⟩ | ⟨-, g2, g3, g4⟩ := q_eq x1 8 (Nat.le_refl 8)
    · exfalso
      exact h (hq.mpr (fun m m1 m2 => g2 m (by omega) (hlt m m1) ((x3 m (hlt m m1)).mpr ⟨m1, m2⟩)))
    · rw [show (8 : Nat) - 8 = 0 from rfl] at g2 g3 g4
      obtain ⟨k1, k2⟩ := (x3 _ g2).mp g3
      have hf : xa_fi (KP K) a t (m_eq (nI X) 8 0) := ⟨by rw [kp_nt Z]; exact ht, k1, k2, fun m' h1 h2 h3 => g4 m' (by omega) h1 ((x3 m' (by omega)).mpr ⟨h2, h3⟩)⟩
      refine ⟨hf, fun m hm => ?_⟩
      apply Classical.byContradiction
      intro hne
      obtain h | h := Nat.lt_or_gt_of_ne hne
      · exact hf.2.2.2 m h hm.2.1 hm.2.2.1
      · exact hm.2.2.2 _ h k1 k2
theorem q_emp (Z : KW K te ow na nt sz) (S : KS K na nt oc) (I : xa_in (KP K) (ao oc) a) (D : DC K ow nt oc T C E a) {t m : Nat} (hf : xa_fi (KP K) a t m) : DC K ow nt oc (m_eT T m) (m_eC K C m) E (xa_em (KP K) a m) := by
  have hna := Z.1
  have hsz := Z.2.2.1
  obtain ⟨j1, j2, j3⟩ := I.2.2.2.1 m hf.2.1
  have hm : m < na := by have := (I.2.1 m j1).1; rw [kp_na Z] at this; exact this
  have o1 : oc = 1 := ao_1.mp j3
  obtain ⟨e, op, c1, c2, c3, c4, c5, c6, c7, c8, c9, c10⟩ := kp_act Z hm
  obtain ⟨-, op', f1, f2, f3, f4, f5, f6, -⟩ := Z.2.2.2.2.2.2.2.1 e c1
  have hop : op' = op := by rw [c5, nI_eq (by omega) (by omega)] at f1; exact f1.symm
  rw [hop] at f6
  obtain ⟨c, d1, d2⟩ := f6 (by omega)
  have hob : xa_ob (KP K) m = c := (q_kv Z c3 d1 d2).1
  obtain ⟨D1, D2, D3, D4, D5, D6, D7, D8, D9⟩ := D
  have hw := (D8 o1 m (by omega)).1 hf.2.1
  unfold m_eT m_eC
  rw [if_pos (by omega), if_pos (by omega), c2, and_63 (by omega), ix_nI (by omega), d2, q_wb (by omega), show (55 : Int32) + nI m = nI (55 + m) from nI_add 55 m, show (24 : Int32) + (4 : Int32) * nI m = nI (24 + 4 * m) from k_ma 24 4 m]
  have hT : ∀ k w', dis (55 + m) 1 k w' → fd (m_cl T 1 (nI (55 + m))) k w' = fd T k w' := fun k w' h => fd_cl_ne (w := 1) (by decide) (by omega) h
  have hC : ∀ k w', dis (4 * c) 4 k w' → dis (24 + 4 * m) 4 k w' → fd (m_cl (m_pc C (nI c) (nI (d_wb C m))) 15 (nI (24 + 4 * m))) k w' = fd C k w' := fun k w' h1 h2 => by
    rw [fd_cl_ne (w := 4) (by decide) (by omega) h2, pc_ne d1 (by omega) h1]
  refine ⟨fun t' ht' => ?_, fun l h1 h2 => ?_, fun h0 l h1 => ?_, fun m' hm' => ?_, fun n hn => ?_, fun n hn => ?_, fun _ c' hc' => ?_, fun _ n hn => ?_, fun h => by omega⟩
  · obtain ⟨k1, k2, k3⟩ := D1 t' ht'
    have hnt := Z.2.1
    refine ⟨?_, fun l h1 h2 => ?_, fun h0 => by omega⟩
    · show d_nx _ t' = xa_nx a t'
      rw [← k1]
      exact hT _ _ (by unfold dis; omega)
    · have : d_va (m_cl T 1 (nI (55 + m))) l = d_va T l := hT _ _ (by unfold dis; omega)
      rw [this]; exact k2 l h1 h2
  · rw [← D2 l h1 h2]; exact hT _ _ (by unfold dis; omega)
  · rw [← D3 h0 l h1]; exact hT _ _ (by unfold dis; omega)
  · show _ = as_ho a m'
    rw [← D4 m' hm']; exact hT _ _ (by unfold dis; omega)
  · have : d_do (m_cl T 1 (nI (55 + m))) n = d_do T n := hT _ _ (by unfold dis; omega)
    rw [this]; exact D5 n hn
  · show _ ↔ up_1 (as_qu a) m False n
    rw [up_false]
    by_cases hnm : n = m
    · subst hnm
      have : d_qu (m_cl T 1 (nI (55 + n))) n = 0 := fd_cl (by omega) (by omega) (by decide)
      rw [this]
      exact ⟨fun h => by omega, fun h => absurd rfl h.1⟩
    · have : d_qu (m_cl T 1 (nI (55 + m))) n = d_qu T n := hT _ _ (by unfold dis; omega)
      rw [this, D6 n hn]
      exact ⟨fun h => ⟨hnm, h⟩, fun h => h.2⟩
  · show _ = xa_vs a (up_1 (as_me a) (xa_ob (KP K) m) (m + 1) c') ∧ _
    rw [hob]
    by_cases hcc : c' = c
    · subst hcc
      rw [up_same]
      have : d_ce (m_cl (m_pc C (nI c') (nI (d_wb C m))) 15 (nI (24 + 4 * m))) c' = d_wb C m := by
        unfold d_ce
        rw [fd_cl_ne (w := 4) (by decide) (by omega) (by omega)]
        exact pc_ce hc' (by omega)
      rw [this]
      refine ⟨?_, hw.2⟩
      unfold xa_vs
      rw [if_neg (by omega), Nat.add_sub_cancel]
      exact hw.1
    · rw [up_ne hcc]
      have : d_ce (m_cl (m_pc C (nI c) (nI (d_wb C m))) 15 (nI (24 + 4 * m))) c' = d_ce C c' := hC _ _ (by unfold dis; omega) (by unfold dis; omega)
      rw [this]; exact D7 (by omega) c' hc'
  · show (up_1 (as_qu a) m False n → _) ∧ (¬ up_1 (as_qu a) m False n → _)
    rw [up_false]
    by_cases hnm : n = m
    · subst hnm
      have : d_wb (m_cl (m_pc C (nI c) (nI (d_wb C n))) 15 (nI (24 + 4 * n))) n = 0 := fd_cl (by omega) (by omega) (by decide)
      rw [this]
      exact ⟨fun h => absurd rfl h.1, fun _ => rfl⟩
    · have : d_wb (m_cl (m_pc C (nI c) (nI (d_wb C m))) 15 (nI (24 + 4 * m))) n = d_wb C n := hC _ _ (by unfold dis; omega) (by unfold dis; omega)
      rw [this]
      exact ⟨fun h => (D8 o1 n hn).1 h.2, fun h => (D8 o1 n hn).2 (fun h' => h ⟨hnm, h'⟩)⟩
end
