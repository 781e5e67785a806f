/-! ===== the leaves of the class's tree are the ends of the runs ===== -/
def sum8 (g : Nat → Nat) : Nat := g 0 + g 1 + g 2 + g 3 + g 4 + g 5 + g 6 + g 7
theorem sum8_inc {g g' : Nat → Nat} {n : Nat} (hn : n < 8) (h1 : g' n = g n + 1) (h2 : ∀ m, m < 8 → m ≠ n → g' m = g m) : sum8 g' = sum8 g + 1 := by
  have e : ∀ m, m < 8 → g' m = g m + (if m = n then 1 else 0) := fun m hm => by
    by_cases h : m = n
    · rw [if_pos h, h, h1]
    · rw [if_neg h, h2 m hm h]; rfl
  unfold sum8
  rw [e 0 (by omega), e 1 (by omega), e 2 (by omega), e 3 (by omega), e 4 (by omega), e 5 (by omega), e 6 (by omega), e 7 (by omega)]
  have : n = 0 ∨ n = 1 ∨ n = 2 ∨ n = 3 ∨ n = 4 ∨ n = 5 ∨ n = 6 ∨ n = 7 := by omega
  obtain rfl | rfl | rfl | rfl | rfl | rfl | rfl | rfl := this <;> simp <;> omega
def rk_g (K : Nat → Nat → Int32) (oc : Nat) (T : Int64) (n : Nat) : Nat := d_do T n + (if oc = 1 ∧ xa_op (KP K) n = 1 then d_do T n - d_qu T n else 0)
def rk (K : Nat → Nat → Int32) (oc : Nat) (T : Int64) : Nat := sum8 (rk_g K oc T)
/-- a state of the class that some run comes to, d steps from the start -/
def RA (K : Nat → Nat → Int32) (ow : Nat → Nat) (nt oc : Nat) (x : KY) (a : AS) (p : List (Nat × Nat)) : Prop := xa_ph (KP K) (kv K) (ao oc) p (xa_0 (KP K)) a ∧ DC K ow nt oc x.1 x.2.1 x.2.2 a
def RC (K : Nat → Nat → Int32) (ow : Nat → Nat) (nt oc : Nat) (x : KY) (d : Nat) : Prop := (∃ a p, RA K ow nt oc x a p) ∧ rk K oc x.1 = d
section
variable {K : Nat → Nat → Int32} {te ow : Nat → Nat} {na nt sz oc : Nat} {x : KY} {a : AS} {p : List (Nat × Nat)}
theorem xa_ph_snoc {P : PA} {V : Nat → Bool} {o : Nat} : ∀ (p : List (Nat × Nat)) (s z z' : AS) (q : List (Nat × Nat)), xa_ph P V o p s z → xa_ph P V o q z z' → xa_ph P V o (p ++ q) s z' := by
  intro p
  induction p with
  | nil => intro s z z' q h1 h2; cases h1; exact h2
  | cons c p ih =>
    intro s z z' q h1 h2
    obtain ⟨a1, a2, a3, a4⟩ | ⟨a1, a2, a3⟩ := h1
    · exact Or.inl ⟨a1, a2, a3, ih _ _ _ _ a4 h2⟩
    · exact Or.inr ⟨a1, a2, ih _ _ _ _ a3 h2⟩
theorem kp_wd (Z : KW K te ow na nt sz) : xa_wd (KP K) := by
  intro hd
  have hna := Z.1
  have hnt := Z.2.1
  have hsz := Z.2.2.1
  rw [kp_na Z] at hd ⊢
  rw [kp_nt Z]
  obtain h | ⟨d, m, ed, a1, a2, a3, a4, a5, a6, a7, a8, a9, a10⟩ := Z.2.2.2.2.2.2.2.2.2
  · have : pa_dn (KP K) = 8 := if_pos h
    omega
  · have e1 : pa_dn (KP K) = d := by
      show (if K 10 17 = -1 then 8 else ix (K 10 17)) = d
      rw [a1, if_neg (nI_ne1 (by omega)), ix_nI (by omega)]
    have e2 : pa_mk (KP K) = m := by
      show ix (K 10 16) = m
      rw [a3, ix_nI (by omega)]
    rw [e1, e2]
    refine ⟨a4, ?_, fun n lm hn hth hlt => ?_⟩
    · obtain ⟨s, s1, s2, s3⟩ := Z.2.2.2.2.2.1 m a4
      show (w_go K 64 _ (ix (K 7 m))).2 ≤ d
      rw [s1, ix_nI (by omega)]
      exact w_go_dn Z a2 a5 a6 a7 a4 a10 64 _ s (a9 s s1 s2) s3 (by omega)
    · obtain ⟨e, op, c1, c2, c3, c4, c5, c6, c7, c8, c9, c10⟩ := kp_act Z hn
      obtain ⟨-, op', f1, f2, f3, f4, f5, -⟩ := Z.2.2.2.2.2.2.2.1 e c1
      have hop : op' = op := by rw [c5, nI_eq (by omega) (by omega)] at f1; exact f1.symm
      obtain ⟨g1, g2⟩ := f5 (by omega)
      obtain ⟨e', op'', q1, q2, q3, q4, q5, q6, q7, -⟩ := kp_act Z a2
      have hee : e' = ed := by rw [a5, nI_eq (by omega) (by omega)] at q2; exact q2.symm
      have hlt2 : e < ed := by
        apply Nat.lt_of_not_le
        intro hle
        obtain hle | hle := Nat.lt_or_eq_of_le hle
        · have := Z.2.2.2.2.2.2.2.2.1 ed e d n hle c1 (by rw [← hee]; exact q4) c4 a2 hn
          omega
        · rw [← hle, ← hee, q4, nI_eq (by omega) (by omega)] at c4
          omega
      show (w_go K 64 lm (ix (K 8 n) + 1)).2 ≤ d
      rw [c3]
      exact w_go_dn Z a2 a5 a6 a7 a4 a10 64 lm (e + 1) (by omega) (g2.trans (c8.symm.trans hth)) (by omega)
theorem xa_ph_dd {P : PA} {V : Nat → Bool} {o : Nat} (W : xa_wf P) (D : xa_wd P) : ∀ (p : List (Nat × Nat)) (s s' : AS), xa_in P o s → xa_dd P s → xa_ph P V o p s s' → xa_dd P s' := by
  intro p
  induction p with
  | nil => intro s s' I R h; cases h; exact R
  | cons q p ih =>
    intro s s' I R h
    obtain ⟨h1, h2, h3, h4⟩ | ⟨h1, h2, h3⟩ := h
    · exact ih _ _ (xa_in_ac W I h2 h3) (xa_dd_ac W D I h2 R) h4
    · exact ih _ _ (xa_in_em I h2) (xa_dd_em R) h3
theorem ra_in (Z : KW K te ow na nt sz) (R : RA K ow nt oc x a p) : xa_in (KP K) (ao oc) a ∧ xa_dd (KP K) a := by
  have W := kp_wf Z
  exact ⟨(xa_ph_in W p _ _ (xa_in_0 W) xa_rp_0 R.1).1, xa_ph_dd W (kp_wd Z) p _ _ (xa_in_0 W) (xa_dd_0 (kp_wd Z)) R.1⟩
theorem fd_b {T : Int64} {k : Nat} : fd T k 1 = 0 ∨ fd T k 1 = 1 := by have := fd_lt (T := T) (k := k) (w := 1); omega
theorem d_eq {T T' : Int64} {k : Nat} (h : fd T k 1 = 1 ↔ fd T' k 1 = 1) : fd T k 1 = fd T' k 1 := by
  obtain h1 | h1 := fd_b (T := T) (k := k) <;> obtain h2 | h2 := fd_b (T := T') (k := k) <;> omega
/-- a child by an action -/
theorem ra_as (Z : KW K te ow na nt sz) (S : KS K na nt oc) (R : RA K ow nt oc x a p) {t : Nat} (ht : t < nt) {c : Nat × KY} (hc : c ∈ ky_as K x t) : ∃ w, w < 10 ∧ xa_en (KP K) (kv K) a t ∧ xa_se (KP K) (kv K) (ao oc) a t w ∧ RA K ow nt oc c.2 (xa_ac (KP K) (kv K) (ao oc) a t w) (p ++ [(t, w)]) ∧ rk K oc c.2.1 = rk K oc x.1 + 1 ∧ c.1 = t := by
  obtain ⟨I, hd⟩ := ra_in Z R
  have hna := Z.1
  have D := R.2
  have W := kp_wf Z
  unfold ky_as at hc
  split at hc
  · cases hc
  · rename_i hcan
    obtain ⟨k1, k2⟩ | ⟨k1, he⟩ := q_can Z S I D ht
    · exact absurd k1 hcan
    have hn : xa_nx a t < na := by have := he.2.1; rw [kp_na Z] at this; exact this
    have hal : ∀ n i, i + n = 9 → c ∈ ky_al K x t (m_si K x.1 x.2.1 x.2.2 (nI t)) n i → ∃ s, s ≤ 8 ∧ ¬ ((m_si K x.1 x.2.1 x.2.2 (nI t) >>> (nI s &&& 31)) &&& (1 : Int32)) = 0 ∧ c = (t, ky_ac K x (nI t) (nI s)) := by
      intro n
      induction n with
      | zero => intro i _ h; cases h
      | succ n ih =>
        intro i hi h
        unfold ky_al at h
        rw [List.mem_append] at h
        obtain h | h := h
        · split at h
          · cases h
          · rename_i hb
            exact ⟨i, by omega, hb, List.mem_singleton.mp h⟩
        · exact ih (i + 1) (by omega) h
    obtain ⟨s, s1, s2, s3⟩ := hal 9 0 (by omega) hc
    have hw : ∃ w, xa_se (KP K) (kv K) (ao oc) a t w ∧ (2 ≤ oc → sw (nI s) w) := by
      by_cases ho : oc < 2
      · obtain ⟨w, w1, -⟩ := q_se1 Z I ho (t := t)
        exact ⟨w, w1, fun h => by omega⟩
      · obtain ⟨X, x1, x2, x3⟩ := q_si Z S I hd D (by omega) ht hn
        rw [x2, nI_bit0 (by omega) (by omega)] at s2
        have hb : X.testBit s = true := by
          cases hX : X.testBit s with
          | true => rfl
          | false => exact absurd hX s2
        refine ⟨if s = 8 then 0 else s + 1, (x3 s s1).mp hb, fun _ => ?_⟩
        by_cases h8 : s = 8
        · exact Or.inl ⟨by rw [h8], if_pos h8⟩
        · exact Or.inr ⟨s, by omega, rfl, if_neg h8⟩
    obtain ⟨w, w1, w2⟩ := hw
    have hwlt : w < 10 := by
      by_cases h0 : w = 0
      · omega
      · have hdo := (xa_se_do (m := w - 1) I (by rw [show w - 1 + 1 = w by omega]; exact w1)).1
        have := (I.2.1 _ hdo).1
        rw [kp_na Z] at this
        omega
    have D' := q_act Z S I hd D he w1 w2
    rw [s3]
    refine ⟨w, hwlt, he, w1, ⟨xa_ph_snoc p _ _ _ [(t, w)] R.1 (Or.inl ⟨hwlt, he, w1, rfl⟩), D'⟩, ?_, rfl⟩
    have hnd := xa_nx_nd W I he.1 he.2.1
    refine sum8_inc (n := xa_nx a t) (by omega) ?_ ?_
    · have e1 : d_do x.1 (xa_nx a t) = 0 := by
        obtain h | h := fd_b (T := x.1) (k := 47 + xa_nx a t)
        · exact h
        · exact absurd ((D.2.2.2.2.1 _ (by omega)).mp h) hnd
      have e2 : d_do (m_aT K x.1 x.2.1 (nI t) (nI s)) (xa_nx a t) = 1 := (D'.2.2.2.2.1 _ (by omega)).mpr (by rw [xa_ac_do, up_true]; exact Or.inl rfl)
      show rk_g K oc (m_aT K x.1 x.2.1 (nI t) (nI s)) (xa_nx a t) = rk_g K oc x.1 (xa_nx a t) + 1
      unfold rk_g
      rw [e1, e2]
      by_cases h : oc = 1 ∧ xa_op (KP K) (xa_nx a t) = 1
      · rw [if_pos h, if_pos h]
        have e3 : d_qu (m_aT K x.1 x.2.1 (nI t) (nI s)) (xa_nx a t) = 1 := (D'.2.2.2.2.2.1 _ (by omega)).mpr (xa_hu_qu.mpr (Or.inr ⟨rfl, h.2, ao_1.mpr h.1⟩))
        rw [e3]; omega
      · rw [if_neg h, if_neg h]
    · intro m hm hne
      show rk_g K oc (m_aT K x.1 x.2.1 (nI t) (nI s)) m = rk_g K oc x.1 m
      have e1 : d_do (m_aT K x.1 x.2.1 (nI t) (nI s)) m = d_do x.1 m := by
        refine d_eq ((D'.2.2.2.2.1 m hm).trans (Iff.trans ?_ (D.2.2.2.2.1 m hm).symm))
        rw [xa_ac_do, up_true]
        exact ⟨fun h => h.elim (fun h => absurd h hne) id, Or.inr⟩
      have e2 : d_qu (m_aT K x.1 x.2.1 (nI t) (nI s)) m = d_qu x.1 m := by
        refine d_eq ((D'.2.2.2.2.2.1 m hm).trans (Iff.trans ?_ (D.2.2.2.2.2.1 m hm).symm))
        rw [xa_hu_qu]
        exact ⟨fun h => h.elim id (fun h => absurd h.1 hne), Or.inl⟩
      unfold rk_g
      rw [e1, e2]
/-- a child by an emptying -/
theorem ra_es (Z : KW K te ow na nt sz) (S : KS K na nt oc) (R : RA K ow nt oc x a p) {t : Nat} (ht : t < nt) {c : Nat × KY} (hc : c ∈ ky_es K x t) : ∃ m, xa_fi (KP K) a t m ∧ RA K ow nt oc c.2 (xa_em (KP K) a m) (p ++ [(t, 10 + m)]) ∧ rk K oc c.2.1 = rk K oc x.1 + 1 := by
  obtain ⟨I, hd⟩ := ra_in Z R
  have hna := Z.1
  have D := R.2
  unfold ky_es at hc
  split at hc
  · cases hc
  · rename_i hq
    obtain ⟨k1, -⟩ | ⟨-, hf, -⟩ := q_fi Z S I D ht
    · exact absurd k1 hq
    rw [List.mem_singleton.mp hc]
    have D' := q_emp Z S I D hf
    refine ⟨_, hf, ⟨xa_ph_snoc p _ _ _ [(t, 10 + m_eq (m_qu K x.1 (nI t)) 8 0)] R.1 (Or.inr ⟨Nat.le_add_right _ _, by rw [Nat.add_sub_cancel_left]; exact hf, by rw [Nat.add_sub_cancel_left]; rfl⟩), D'⟩, ?_⟩
    have hq1 := I.2.2.2.1 _ hf.2.1
    have hm8 : m_eq (m_qu K x.1 (nI t)) 8 0 < 8 := by
      have := (I.2.1 _ hq1.1).1
      rw [kp_na Z] at this
      omega
    refine sum8_inc (n := m_eq (m_qu K x.1 (nI t)) 8 0) hm8 ?_ ?_
    · show rk_g K oc (m_eT x.1 _) _ = rk_g K oc x.1 _ + 1
      have e1 : d_do x.1 (m_eq (m_qu K x.1 (nI t)) 8 0) = 1 := (D.2.2.2.2.1 _ hm8).mpr hq1.1
      have e2 : d_qu x.1 (m_eq (m_qu K x.1 (nI t)) 8 0) = 1 := (D.2.2.2.2.2.1 _ hm8).mpr hf.2.1
      have e3 : d_do (m_eT x.1 (m_eq (m_qu K x.1 (nI t)) 8 0)) (m_eq (m_qu K x.1 (nI t)) 8 0) = 1 := (D'.2.2.2.2.1 _ hm8).mpr hq1.1
      have e4 : d_qu (m_eT x.1 (m_eq (m_qu K x.1 (nI t)) 8 0)) (m_eq (m_qu K x.1 (nI t)) 8 0) = 0 := by
        obtain h | h := fd_b (T := m_eT x.1 (m_eq (m_qu K x.1 (nI t)) 8 0)) (k := 55 + m_eq (m_qu K x.1 (nI t)) 8 0)
        · exact h
        · have := (D'.2.2.2.2.2.1 _ hm8).mp h
          change up_1 (as_qu a) _ False _ at this
          rw [up_false] at this
          exact absurd rfl this.1
      unfold rk_g
      rw [e1, e2, e3, e4, if_pos ⟨ao_1.mp hq1.2.2, hq1.2.1⟩, if_pos ⟨ao_1.mp hq1.2.2, hq1.2.1⟩]
    · intro m hm hne
      show rk_g K oc (m_eT x.1 _) m = rk_g K oc x.1 m
      have e1 : d_do (m_eT x.1 (m_eq (m_qu K x.1 (nI t)) 8 0)) m = d_do x.1 m := d_eq ((D'.2.2.2.2.1 m hm).trans (D.2.2.2.2.1 m hm).symm)
      have e2 : d_qu (m_eT x.1 (m_eq (m_qu K x.1 (nI t)) 8 0)) m = d_qu x.1 m := by
        refine d_eq ((D'.2.2.2.2.2.1 m hm).trans (Iff.trans ?_ (D.2.2.2.2.2.1 m hm).symm))
        show up_1 (as_qu a) _ False m ↔ _
        rw [up_false]
        exact ⟨fun h => h.2, fun h => ⟨hne, h⟩⟩
      unfold rk_g
      rw [e1, e2]
theorem rc_16 {d : Nat} (R : RC K ow nt oc x d) : d ≤ 16 := by
  rw [← R.2]
  have h : ∀ n, rk_g K oc x.1 n ≤ 2 := fun n => by
    unfold rk_g
    have h1 : d_do x.1 n ≤ 1 := by unfold d_do; have := fd_lt (T := x.1) (k := 47 + n) (w := 1); omega
    split <;> omega
  unfold rk sum8
  have := h 0; have := h 1; have := h 2; have := h 3; have := h 4; have := h 5; have := h 6; have := h 7
  omega
theorem rc_ch (Z : KW K te ow na nt sz) (S : KS K na nt oc) {d t : Nat} {c : Nat × KY} (R : RC K ow nt oc x d) (ht : t < nt) (hc : c ∈ ky_as K x t ∨ c ∈ ky_es K x t) : RC K ow nt oc c.2 (d + 1) := by
  obtain ⟨⟨a, p, R⟩, rfl⟩ := R
  obtain hc | hc := hc
  · obtain ⟨w, -, -, -, h1, h2, -⟩ := ra_as Z S R ht hc
    exact ⟨⟨_, _, h1⟩, h2⟩
  · obtain ⟨m, -, h1, h2⟩ := ra_es Z S R ht hc
    exact ⟨⟨_, _, h1⟩, h2⟩
theorem ra_0 (Z : KW K te ow na nt sz) : RA K ow nt oc (m_bg K nt 0 0, 0, 0) (xa_0 (KP K)) [] := ⟨rfl, q_bg Z⟩
theorem rc_0 (Z : KW K te ow na nt sz) : RC K ow nt oc (m_bg K nt 0 0, 0, 0) 0 := by
  refine ⟨⟨_, _, ra_0 Z⟩, ?_⟩
  have D := q_bg (oc := oc) Z
  have h : ∀ n, n < 8 → rk_g K oc (m_bg K nt 0 0) n = 0 := fun n hn => by
    have e : d_do (m_bg K nt 0 0) n = 0 := by
      obtain h | h := fd_b (T := m_bg K nt 0 0) (k := 47 + n)
      · exact h
      · exact ((D.2.2.2.2.1 n hn).mp h).elim
    unfold rk_g
    rw [e]
    split <;> omega
  show sum8 (rk_g K oc (m_bg K nt 0 0)) = 0
  unfold sum8
  rw [h 0 (by omega), h 1 (by omega), h 2 (by omega), h 3 (by omega), h 4 (by omega), h 5 (by omega), h 6 (by omega), h 7 (by omega)]
end
