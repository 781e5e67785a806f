/-! ===== the three longs and the mid picture: sights and values ===== -/
section
variable {K : Nat → Nat → Int32} {te ow : Nat → Nat} {na nt sz oc : Nat} {T C E : Int64} {a : AS}
theorem q_te (Z : KW K te ow na nt sz) (I : xa_in (KP K) (ao oc) a) {t e : Nat} (ht : t < nt) (hn : xa_nx a t < na) (h : xa_th (KP K) (xa_nx a t) = te e) : te e = t := by
  obtain h1 | h1 := I.1 t (by rw [kp_nt Z]; exact ht)
  · have := Z.1; omega
  · rw [← h]; exact h1.2
theorem q_si (Z : KW K te ow na nt sz) (S : KS K na nt oc) (I : xa_in (KP K) (ao oc) a) (hd : xa_dd (KP K) a) (D : DC K ow nt oc T C E a) (ho : 2 ≤ oc) {t : Nat} (ht : t < nt) (hn : xa_nx a t < na) :
    ∃ X, X < 512 ∧ m_si K T C E (nI t) = nI X ∧ ∀ s, s ≤ 8 → (X.testBit s = true ↔ xa_se (KP K) (kv K) (ao oc) a t (if s = 8 then 0 else s + 1)) := by
  have hna := Z.1
  have hsz := Z.2.2.1
  have hoc := S.2.1
  obtain ⟨e, op, c1, c2, c3, c4, c5, c6, c7, c8, c9, c10, c11⟩ := q_at Z D ht hn
  obtain ⟨-, op', f1, f2, f3, f4, f5, f6, -⟩ := Z.2.2.2.2.2.2.2.1 e c1
  have hop : op' = op := by rw [c5, nI_eq (by omega) (by omega)] at f1; exact f1.symm
  rw [hop] at f6
  have hte := q_te Z I ht hn c8
  unfold m_si xa_se
  rw [c11, c10, ix_nI (show e < 2 ^ 31 by omega), c7, S.1, if_neg (show ¬ nI oc < 2 from nI_nlt (b := 2) (by omega) (by omega))]
  by_cases hr : op = 0 ∨ op = 2
  · have hr' : nI op = 0 ∨ nI op = 2 := by
      obtain h | h := hr
      · exact Or.inl (by rw [h]; rfl)
      · exact Or.inr (by rw [h]; rfl)
    rw [if_pos hr']
    obtain ⟨c, d1, d2⟩ := f6 (by omega)
    obtain ⟨g1, g2⟩ := q_kv Z c3 d1 d2
    rw [g1]
    by_cases hv : oc = 3 ∨ kv K c = true
    · have hv' : nI oc = 3 ∨ ¬ m_vo K (K 4 e) = 0 := by
        obtain h | h := hv
        · exact Or.inl (by rw [h]; rfl)
        · exact Or.inr (g2.mp h)
      have hme : as_me a c ≤ 8 := by
        by_cases h : as_me a c = 0
        · omega
        · have := (I.2.1 _ (I.2.2.2.2.1 c (as_me a c - 1) (by omega)).1).1
          rw [kp_na Z] at this
          omega
      have hao : ao oc = 0 ∨ (ao oc = 2 ∧ kv K c = true) := by
        obtain h | h := hv
        · exact Or.inl (by rw [h]; rfl)
        · by_cases h3 : oc = 3
          · exact Or.inl (by rw [h3]; rfl)
          · exact Or.inr ⟨by unfold ao; rw [if_neg h3]; omega, h⟩
      rw [if_pos hv', d2, q_ce d1, (D.2.2.2.2.2.2.2.2 ho).2.1 c d1 hv]
      have hsef : ∀ w : Nat, (if op = 0 ∨ op = 2 then (if ao oc = 0 ∨ (ao oc = 2 ∧ kv K c = true) then w = as_me a c else if ao oc = 1 then (∃ m, w = m + 1 ∧ xa_qc (KP K) a t c m ∧ ∀ m', m < m' → ¬ xa_qc (KP K) a t c m') ∨ ((∀ m, ¬ xa_qc (KP K) a t c m) ∧ w = as_me a c) else (w = 0 ∨ ∃ m, w = m + 1 ∧ as_do a m ∧ xa_wr (KP K) m c) ∧ ¬ xa_hid (KP K) (kv K) (ao oc) a t (xa_nx a t) c w) else w = 0) ↔ w = as_me a c := fun w => by rw [if_pos hr, if_pos hao]
      simp only [hsef]
      by_cases hz : as_me a c = 0
      · rw [if_pos (by rw [hz]; rfl), show (1 : Int32) <<< ((8 : Int32) &&& 31) = nI (2 ^ 8) from by decide]
        refine ⟨2 ^ 8, by omega, rfl, fun s hs => ?_⟩
        rw [tb_pw, hz]
        split <;> omega
      · rw [if_neg (by rw [show (0 : Int32) = nI 0 from rfl, nI_eq (by omega) (by omega)]; exact hz), show (1 : Int32) = nI 1 from rfl, pk_sub (by omega), show nI 1 = (1 : Int32) from rfl, nI_one (by omega)]
        have := pw_256 (show as_me a c - 1 < 8 by omega)
        refine ⟨2 ^ (as_me a c - 1), by omega, rfl, fun s hs => ?_⟩
        rw [tb_pw]
        split <;> omega
    · have hv' : ¬ (nI oc = 3 ∨ ¬ m_vo K (K 4 e) = 0) := by
        rintro (h | h)
        · rw [show (3 : Int32) = nI 3 from rfl, nI_eq (by omega) (by omega)] at h
          exact hv (Or.inl h)
        · exact hv (Or.inr (g2.mpr h))
      have ho2 : oc = 2 := by
        apply Classical.byContradiction
        intro h
        exact hv (Or.inl (by omega))
      have hao : ao oc = 2 := by rw [ho2]; rfl
      rw [if_neg hv', d2, and_7 (by omega), ix_nI (by omega)]
      obtain ⟨w', w1, w2, w3⟩ := S.2.2.1 c d1
      have hf := fd_lt (T := T) (k := 47) (w := 8)
      have hwd : w' &&& fd T 47 8 < 256 := Nat.lt_of_le_of_lt Nat.and_le_left w2
      obtain ⟨X, x1, x2, x3⟩ := q_ah (s := nI 8) (w := 0) Z S I hd D ho ht hn (c8.trans hte) (Or.inl ⟨rfl, rfl⟩) (fun m h => by omega)
      rw [c2] at x2
      rw [w1, q_do, nI_and (by omega) (by omega), show (8 : Int32) = nI 8 from rfl, x2, nI_and (by omega) (by omega)]
      have hwa : (w' &&& fd T 47 8) &&& X < 256 := Nat.lt_of_le_of_lt Nat.and_le_left hwd
      obtain ⟨Y, y1, y2, y3, y4⟩ := q_sh (E := E) hwa 8 (by omega) 0 (by omega)
      rw [show m_sh E (nI ((w' &&& fd T 47 8) &&& X)) 8 0 0 = nI Y from y2, show (256 : Int32) = nI 256 from rfl, nI_or (by omega) (by omega)]
      have h5 : (w' &&& fd T 47 8) ||| 256 < 512 := Nat.or_lt_two_pow (n := 9) (by omega) (by omega)
      obtain ⟨R, r1, r2, r3⟩ := nI_andn (y := Y) h5
      refine ⟨R, r1, r2, fun s hs => ?_⟩
      rw [r3, nI_tn (by omega), if_pos hr, if_neg (by rintro (h | h); omega; exact hv (Or.inr h.2)), if_neg (by omega), Bool.and_eq_true, tb_or, tb_and, show (256 : Nat) = 2 ^ 8 from rfl, tb_pw, Bool.not_eq_true']
      have hwr : ∀ i, i < 8 → ((((w' &&& fd T 47 8) &&& X).testBit i = true) ↔ xa_wr (KP K) i c ∧ as_do a i ∧ xa_ah (KP K) (kv K) (ao oc) a t (xa_nx a t) 0 i) := by
        intro i hi
        rw [tb_and, tb_and, w3 i hi, q_done D hi, x3 i hi]
        constructor
        · rintro ⟨⟨⟨h1, h2, h3⟩, h4⟩, h5⟩; exact ⟨⟨h2, h3⟩, h4, h5⟩
        · rintro ⟨⟨h2, h3⟩, h4, h5⟩
          have := (I.2.1 i h4).1
          rw [kp_na Z] at this
          exact ⟨⟨⟨this, h2, h3⟩, h4⟩, h5⟩
      have hlt8 : ∀ i, as_do a i → i < 8 := fun i h => by
        have := (I.2.1 i h).1
        rw [kp_na Z] at this
        omega
      by_cases h8 : s = 8
      · subst h8
        rw [if_pos rfl]
        have hY : Y.testBit 8 = true ↔ xa_hid (KP K) (kv K) (ao oc) a t (xa_nx a t) c 0 := by
          rw [y4, Nat.zero_testBit]
          constructor
          · rintro (h | ⟨i, h1, h2, h3⟩)
            · cases h
            · obtain ⟨k1, k2, k3⟩ := (hwr i h2).mp h3
              exact ⟨i, k1, k2, k3, Or.inl rfl⟩
          · rintro ⟨i, k1, k2, k3, -⟩
            exact Or.inr ⟨i, by omega, hlt8 i k2, (hwr i (hlt8 i k2)).mpr ⟨k1, k2, k3⟩⟩
        constructor
        · rintro ⟨-, h⟩
          exact ⟨Or.inl rfl, fun hh => by rw [hY.mpr hh] at h; cases h⟩
        · rintro ⟨-, h⟩
          exact ⟨Or.inr rfl, Bool.eq_false_iff.mpr (fun hh => h (hY.mp hh))⟩
      · rw [if_neg h8]
        have hs8 : s < 8 := by omega
        have hY : Y.testBit s = true ↔ xa_hid (KP K) (kv K) (ao oc) a t (xa_nx a t) c (s + 1) := by
          rw [y3 s hs8, Nat.zero_testBit]
          constructor
          · rintro (h | ⟨i, h1, h2, h3, h4⟩)
            · cases h
            · obtain ⟨k1, k2, k3⟩ := (hwr i h2).mp h3
              exact ⟨i, k1, k2, k3, Or.inr ⟨s, rfl, ((D.2.2.2.2.2.2.2.2 ho).2.2 i s h2 hs8).mp h4⟩⟩
          · rintro ⟨i, k1, k2, k3, h | ⟨m, h, h4⟩⟩
            · omega
            · obtain rfl : s = m := by omega
              exact Or.inr ⟨i, by omega, hlt8 i k2, (hwr i (hlt8 i k2)).mpr ⟨k1, k2, k3⟩, ((D.2.2.2.2.2.2.2.2 ho).2.2 i s (hlt8 i k2) hs8).mpr h4⟩
        rw [w3 s hs8, q_done D hs8]
        constructor
        · rintro ⟨⟨⟨h1, h2, h3⟩, h4⟩ | h4, h⟩
          · exact ⟨Or.inr ⟨s, rfl, h4, h2, h3⟩, fun hh => by rw [hY.mpr hh] at h; cases h⟩
          · omega
        · rintro ⟨h1 | ⟨m, h1, h2, h3⟩, h⟩
          · omega
          · obtain rfl : s = m := by omega
            have := (I.2.1 s h2).1
            rw [kp_na Z] at this
            exact ⟨Or.inl ⟨⟨this, h3.1, h3.2⟩, h2⟩, Bool.eq_false_iff.mpr (fun hh => h (hY.mp hh))⟩
  · rw [if_neg (by
      rintro (h | h)
      · rw [show (0 : Int32) = nI 0 from rfl, i_op c6 (by omega)] at h; exact hr (Or.inl h)
      · rw [show (2 : Int32) = nI 2 from rfl, i_op c6 (by omega)] at h; exact hr (Or.inr h))]
    refine ⟨2 ^ 8, by omega, rfl, fun s hs => ?_⟩
    rw [tb_pw, if_neg hr]
    split <;> omega
/-- in the first two orders there is just one thing to see -/
theorem q_se1 (Z : KW K te ow na nt sz) (I : xa_in (KP K) (ao oc) a) (ho : oc < 2) {t : Nat} : ∃ w, xa_se (KP K) (kv K) (ao oc) a t w ∧ ∀ w', xa_se (KP K) (kv K) (ao oc) a t w' → w' = w := by
  have hna := Z.1
  have hao : ao oc = oc := if_neg (by omega)
  rw [hao]
  unfold xa_se
  by_cases h : xa_op (KP K) (xa_nx a t) = 0 ∨ xa_op (KP K) (xa_nx a t) = 2
  · simp only [if_pos h]
    by_cases h0 : oc = 0
    · simp only [if_pos (Or.inl h0 : oc = 0 ∨ (oc = 2 ∧ kv K (xa_ob (KP K) (xa_nx a t)) = true))]
      exact ⟨_, rfl, fun _ h => h⟩
    · have h1 : oc = 1 := by omega
      have hn : ¬ (oc = 0 ∨ (oc = 2 ∧ kv K (xa_ob (KP K) (xa_nx a t)) = true)) := by omega
      simp only [if_neg hn, if_pos h1]
      by_cases hq : ∃ m, xa_qc (KP K) a t (xa_ob (KP K) (xa_nx a t)) m
      · have hlt : ∀ m, xa_qc (KP K) a t (xa_ob (KP K) (xa_nx a t)) m → m < 8 := fun m hm => by
          have := (I.2.1 m (I.2.2.2.1 m hm.1).1).1
          rw [kp_na Z] at this
          omega
        obtain ⟨m0, hm0⟩ := hq
        obtain ⟨j, ⟨j1, j2⟩, j3⟩ := nt_least (p := fun j => j ≤ 7 ∧ xa_qc (KP K) a t (xa_ob (KP K) (xa_nx a t)) (7 - j)) (7 - m0) ⟨by omega, by have := hlt m0 hm0; rw [show 7 - (7 - m0) = m0 by omega]; exact hm0⟩
        have hmax : ∀ m', 7 - j < m' → ¬ xa_qc (KP K) a t (xa_ob (KP K) (xa_nx a t)) m' := fun m' h1 h2 => by
          have h3 := hlt m' h2
          exact j3 (7 - m') (by omega) ⟨by omega, by rw [show 7 - (7 - m') = m' by omega]; exact h2⟩
        refine ⟨7 - j + 1, Or.inl ⟨7 - j, rfl, j2, hmax⟩, ?_⟩
        rintro w' (⟨m, k1, k2, k3⟩ | ⟨k1, -⟩)
        · have e : m = 7 - j := by
            apply Classical.byContradiction
            intro hne
            obtain h | h := Nat.lt_or_gt_of_ne hne
            · exact k3 _ h j2
            · exact hmax m h k2
          omega
        · exact (k1 _ j2).elim
      · refine ⟨_, Or.inr ⟨fun m hm => hq ⟨m, hm⟩, rfl⟩, ?_⟩
        rintro w' (⟨m, k1, k2, k3⟩ | ⟨-, k2⟩)
        · exact (hq ⟨m, k2⟩).elim
        · exact k2
  · simp only [if_neg h]
    exact ⟨0, rfl, fun _ h => h⟩
theorem q_sq {C : Int64} {c X : Nat} (hX : X < 256) : ∀ n, n ≤ 8 → (∃ m, m < n ∧ X.testBit m = true ∧ (∀ m', m < m' → m' < n → ¬ X.testBit m' = true) ∧ m_sq C (nI c) (nI X) n = m_wb C (nI m)) ∨ ((∀ m, m < n → ¬ X.testBit m = true) ∧ m_sq C (nI c) (nI X) n = m_ce C (nI c)) := by
  intro n
  induction n with
  | zero => intro _; exact Or.inr ⟨fun m h => by omega, rfl⟩
  | succ n ih =>
    intro hn
    unfold m_sq
    by_cases hb : X.testBit n = true
    · rw [if_neg (by rw [nI_bit0 (by omega) (by omega), hb]; exact Bool.noConfusion)]
      exact Or.inl ⟨n, by omega, hb, fun m' h1 h2 => by omega, rfl⟩
    · rw [if_pos (by rw [nI_bit0 (by omega) (by omega)]; exact Bool.eq_false_iff.mpr hb)]
      obtain ⟨m, h1, h2, h3, h4⟩ | ⟨h1, h2⟩ := ih (by omega)
      · refine Or.inl ⟨m, by omega, h2, fun m' k1 k2 => ?_, h4⟩
        by_cases h : m' = n
        · subst h; exact hb
        · exact h3 m' k1 (by omega)
      · refine Or.inr ⟨fun m k => ?_, h2⟩
        by_cases h : m = n
        · subst h; exact hb
        · exact h1 m (by omega)
theorem q_sv (Z : KW K te ow na nt sz) (S : KS K na nt oc) (I : xa_in (KP K) (ao oc) a) (D : DC K ow nt oc T C E a) {t c w : Nat} {s : Int32} (ht : t < nt) (hc : c < 6) (hr : xa_op (KP K) (xa_nx a t) = 0 ∨ xa_op (KP K) (xa_nx a t) = 2) (hob : xa_ob (KP K) (xa_nx a t) = c) (hs : xa_se (KP K) (kv K) (ao oc) a t w) (hsw : 2 ≤ oc → sw s w) :
    ∃ v, v ≤ 9 ∧ m_sv K T C (nI t) (nI c) s = nI v ∧ xa_vs a w = nI v := by
  have hna := Z.1
  have hoc := S.2.1
  unfold m_sv
  rw [S.1]
  by_cases ho : oc < 2
  · have hao : ao oc = oc := if_neg (by omega)
    rw [if_pos (show nI oc < 2 from nI_lt (b := 2) ho (by omega))]
    obtain ⟨X, x1, x2, x3⟩ := q_qu Z S I D ht
    obtain ⟨w', w1, w2, w3⟩ := S.2.2.1 c hc
    rw [x2, and_7 (by omega), ix_nI (by omega), w1, nI_and (by omega) (by omega)]
    have hX : X &&& w' < 256 := Nat.lt_of_le_of_lt Nat.and_le_left x1
    have hbit : ∀ m, m < 8 → ((X &&& w').testBit m = true ↔ xa_qc (KP K) a t c m) := by
      intro m hm
      rw [tb_and, x3 m hm, w3 m hm]
      constructor
      · rintro ⟨⟨h1, h2⟩, h3, h4, h5⟩; exact ⟨h1, h2, h5⟩
      · rintro ⟨h1, h2, h5⟩
        have := (I.2.1 m (I.2.2.2.1 m h1).1).1
        rw [kp_na Z] at this
        exact ⟨⟨h1, h2⟩, this, (I.2.2.2.1 m h1).2.1, h5⟩
    have hlt : ∀ m, xa_qc (KP K) a t c m → m < 8 := fun m hm => by
      have := (I.2.1 m (I.2.2.2.1 m hm.1).1).1
      rw [kp_na Z] at this
      omega
    unfold xa_se at hs
    rw [if_pos hr, hob, hao] at hs
    obtain ⟨m, h1, h2, h3, h4⟩ | ⟨h1, h2⟩ := q_sq (C := C) (c := c) hX 8 (Nat.le_refl 8)
    · have hqc := (hbit m h1).mp h2
      have ho1 : oc = 1 := by
        have := (I.2.2.2.1 m hqc.1).2.2
        rw [hao] at this
        exact this
      rw [if_neg (by omega), if_pos ho1] at hs
      rw [h4, q_wb h1]
      have hwv := ((D.2.2.2.2.2.2.2.1 ho1 m h1).1 hqc.1)
      refine ⟨d_wb C m, hwv.2, rfl, ?_⟩
      obtain ⟨m', k1, k2, k3⟩ | ⟨k1, -⟩ := hs
      · have e : m' = m := by
          apply Classical.byContradiction
          intro hne
          obtain h | h := Nat.lt_or_gt_of_ne hne
          · exact k3 m h hqc
          · exact h3 m' h (hlt m' k2) ((hbit m' (hlt m' k2)).mpr k2)
        rw [k1, e, hwv.1]
        rfl
      · exact (k1 m hqc).elim
    · have hno : ∀ m, ¬ xa_qc (KP K) a t c m := fun m hm => h1 m (hlt m hm) ((hbit m (hlt m hm)).mpr hm)
      have hw : w = as_me a c := by
        by_cases h0 : oc = 0
        · rw [if_pos (Or.inl h0)] at hs; exact hs
        · rw [if_neg (by omega), if_pos (by omega)] at hs
          obtain ⟨m, -, k2, -⟩ | ⟨-, k⟩ := hs
          · exact (hno m k2).elim
          · exact k
      have := D.2.2.2.2.2.2.1 (by omega) c hc
      rw [h2, q_ce hc, hw]
      exact ⟨d_ce C c, this.2, rfl, this.1.symm⟩
  · rw [if_neg (show ¬ nI oc < 2 from nI_nlt (b := 2) (by omega) (by omega))]
    obtain ⟨rfl, rfl⟩ | ⟨m, m1, rfl, rfl⟩ := hsw (by omega)
    · exact ⟨0, by omega, by unfold m_wb; rw [if_pos (by decide)]; rfl, rfl⟩
    · obtain ⟨g1, g2, g3⟩ := xa_se_do I hs
      have := ((D.2.2.2.2.2.2.2.2 (by omega)).1 m m1).1 g1 g2.1
      rw [q_wb m1]
      exact ⟨d_wb C m, this.2, rfl, this.1.symm⟩
theorem q_ip (Z : KW K te ow na nt sz) (S : KS K na nt oc) {w : Nat} {s : Int32} (ho2 : oc = 2) (hsw : sw s w) (hw : ∀ m, w = m + 1 → m < na) : (m_ip K s = 0 ∧ ¬ ∃ m, w = m + 1 ∧ xa_th (KP K) m = pa_mk (KP K) ∧ pa_dn (KP K) < m) ∨ (m_ip K s = 1 ∧ ∃ m, w = m + 1 ∧ xa_th (KP K) m = pa_mk (KP K) ∧ pa_dn (KP K) < m) := by
  have hna := Z.1
  have hnt := Z.2.1
  unfold m_ip
  obtain ⟨rfl, rfl⟩ | ⟨m, m1, rfl, rfl⟩ := hsw
  · rw [if_neg (fun h => h.2.1 (by decide))]
    exact Or.inl ⟨rfl, fun ⟨m, h, _⟩ => by omega⟩
  · have hmn := hw m rfl
    obtain ⟨e, op, c1, c2, c3, c4, c5, c6, c7, c8, c9, c10⟩ := kp_act Z hmn
    obtain hx | ⟨dd, mm, ed, g1, g2, g3, g4, -⟩ := Z.2.2.2.2.2.2.2.2.2
    · rw [if_neg (fun h => h.2.2.1 hx)]
      refine Or.inl ⟨rfl, ?_⟩
      rintro ⟨m', h1, h2, h3⟩
      rw [show pa_dn (KP K) = 8 from if_pos hx] at h3
      omega
    · have hdd : pa_dn (KP K) = dd := by
        show (if K 10 17 = -1 then 8 else ix (K 10 17)) = dd
        rw [g1, if_neg (nI_ne1 (by omega)), ix_nI (by omega)]
      have hmk : pa_mk (KP K) = mm := by
        show ix (K 10 16) = mm
        rw [g3, ix_nI (by omega)]
      rw [g1, g3, and_7 (by omega), ix_nI (by omega), c7, hdd, hmk]
      have hE : ∀ m', m + 1 = m' + 1 → m' = m := fun m' h => by omega
      by_cases hh : dd < m ∧ te e = mm
      · rw [if_pos ⟨by rw [S.1, ho2]; rfl, nI_ge (b := 8) m1 (by decide), nI_ne1 (by omega), nI_ge hh.1 (by omega), by rw [hh.2]⟩]
        exact Or.inr ⟨rfl, m, rfl, c8.trans hh.2, hh.1⟩
      · rw [if_neg]
        · refine Or.inl ⟨rfl, ?_⟩
          rintro ⟨m', h1, h2, h3⟩
          rw [hE m' h1] at h2 h3
          exact hh ⟨h3, c8.symm.trans h2⟩
        · rintro ⟨-, -, -, h1, h2⟩
          rw [nI_eq (by omega) (by omega)] at h2
          rw [nI_leI (by omega) (by omega)] at h1
          exact hh ⟨by omega, h2⟩
end
