/-! ===== an end of a run is a function of what each READ saw and which locks were done ===== -/
def xa_vw (wv : Nat → Int32) (w : Nat) : Int32 := if w = 0 then 0 else wv (w - 1)
def xa_tr (P : PA) (sa : Nat → Nat) (wv : Nat → Int32) (t : Nat) : Nat → TS
  | 0 => pa_ks P t
  | k + 1 => pa_kc P (xa_tr P sa wv t k).2 (xa_rd P (xa_tr P sa wv t k).1 (xa_tr P sa wv t k).2 (sa (xa_tr P sa wv t k).2) (xa_vw wv (sa (xa_tr P sa wv t k).2)))
def xa_rp (P : PA) (s : AS) : Prop :=
  (∀ n m, as_sa s n = m + 1 → as_do s n ∧ as_do s m ∧ xa_op P m = 1) ∧
  ∀ t, t < pa_nt P → ∃ k, as_th s t = xa_tr P (as_sa s) (as_wv s) t k ∧
    (∀ j, j < k → (xa_tr P (as_sa s) (as_wv s) t j).2 < pa_na P ∧ xa_th P (xa_tr P (as_sa s) (as_wv s) t j).2 = t ∧ as_do s (xa_tr P (as_sa s) (as_wv s) t j).2 ∧ (xa_op P (xa_tr P (as_sa s) (as_wv s) t j).2 = 1 → as_wv s (xa_tr P (as_sa s) (as_wv s) t j).2 = pa_ws P (xa_tr P (as_sa s) (as_wv s) t j).2 (xa_tr P (as_sa s) (as_wv s) t j).1)) ∧
    (∀ a, as_do s a → xa_th P a = t → ∃ j, j < k ∧ a = (xa_tr P (as_sa s) (as_wv s) t j).2)
theorem xa_tr_eq {P : PA} {sa sa' : Nat → Nat} {wv wv' : Nat → Int32} {t k : Nat} (h : ∀ j, j < k → sa' (xa_tr P sa wv t j).2 = sa (xa_tr P sa wv t j).2 ∧ xa_vw wv' (sa (xa_tr P sa wv t j).2) = xa_vw wv (sa (xa_tr P sa wv t j).2)) : ∀ j, j ≤ k → xa_tr P sa' wv' t j = xa_tr P sa wv t j := by
  intro j
  induction j with
  | zero => intro _; rfl
  | succ j ih =>
    intro hj
    have e := ih (by omega)
    obtain ⟨h1, h2⟩ := h j (by omega)
    show pa_kc P (xa_tr P sa' wv' t j).2 _ = pa_kc P (xa_tr P sa wv t j).2 _
    rw [e, h1, h2]
theorem xa_rp_0 {P : PA} : xa_rp P (xa_0 P) :=
  ⟨fun _ _ h => Nat.noConfusion h, fun t _ => ⟨0, rfl, fun j h => absurd h (Nat.not_lt_zero j), fun _ h => h.elim⟩⟩
theorem xa_rp_ac {P : PA} {V : Nat → Bool} {o : Nat} {s : AS} {t w : Nat} (W : xa_wf P) (I : xa_in P o s) (R : xa_rp P s) (he : xa_en P V s t) (hs : xa_se P V o s t w) : xa_rp P (xa_ac P V o s t w) := by
  have htn := xa_nx_th W I he.1 he.2.1
  have hnd := xa_nx_nd W I he.1 he.2.1
  have hsa : ∀ n, as_do s n → as_sa (xa_ac P V o s t w) n = as_sa s n := fun n hn => by
    rw [xa_ac_sa, up_ne (do_ne hn hnd)]
  have hwv : ∀ n, as_do s n → as_wv (xa_ac P V o s t w) n = as_wv s n := fun n hn => by
    rw [xa_ac_wv]
    split
    · rw [up_ne (do_ne hn hnd)]
    · rfl
  have hvw : ∀ n, as_do s n → xa_vw (as_wv (xa_ac P V o s t w)) (as_sa s n) = xa_vw (as_wv s) (as_sa s n) := fun n hn => by
    unfold xa_vw
    split
    · rfl
    · rename_i h0
      exact hwv _ ((R.1 n (as_sa s n - 1) (by omega)).2.1)
  constructor
  · intro n m hm
    rw [xa_ac_do, up_true, up_true]
    by_cases hn : n = xa_nx s t
    · subst hn
      rw [xa_ac_sa, up_same] at hm
      subst hm
      have := xa_se_do I hs
      exact ⟨Or.inl rfl, Or.inr this.1, this.2.1.1⟩
    · rw [xa_ac_sa, up_ne hn] at hm
      have := R.1 n m hm
      exact ⟨Or.inr this.1, Or.inr this.2.1, this.2.2⟩
  · intro t' ht'
    obtain ⟨k, h1, h2, h3⟩ := R.2 t' ht'
    have heq := xa_tr_eq (P := P) (sa := as_sa s) (wv := as_wv s) (sa' := as_sa (xa_ac P V o s t w)) (wv' := as_wv (xa_ac P V o s t w)) (t := t') (k := k) (fun j hj => ⟨hsa _ (h2 j hj).2.2.1, hvw _ (h2 j hj).2.2.1⟩)
    by_cases hne : t' = t
    · subst hne
      have hk : xa_tr P (as_sa s) (as_wv s) t' k = ((xa_lm s t', xa_nx s t') : TS) := by rw [← h1]; rfl
      refine ⟨k + 1, ?_, ?_, ?_⟩
      · rw [xa_ac_th, up_same]
        show _ = pa_kc P (xa_tr P (as_sa (xa_ac P V o s t' w)) (as_wv (xa_ac P V o s t' w)) t' k).2 _
        rw [heq k (Nat.le_refl k), hk]
        show pa_kc P (xa_nx s t') _ = pa_kc P (xa_nx s t') (xa_rd P (xa_lm s t') (xa_nx s t') (as_sa (xa_ac P V o s t' w) (xa_nx s t')) (xa_vw (as_wv (xa_ac P V o s t' w)) (as_sa (xa_ac P V o s t' w) (xa_nx s t'))))
        rw [xa_ac_sa, up_same]
        have : xa_vw (as_wv (xa_ac P V o s t' w)) w = xa_vs s w := xa_vs_ac (w' := w) hnd (fun m hm => (xa_se_do I (hm ▸ hs)).1)
        rw [this]
      · intro j hj
        rw [heq j (by omega)]
        by_cases hjk : j = k
        · subst hjk
          rw [hk]
          refine ⟨he.2.1, htn, by rw [xa_ac_do, up_true]; exact Or.inl rfl, fun h => ?_⟩
          show as_wv (xa_ac P V o s t' w) (xa_nx s t') = _
          rw [xa_ac_wv, if_pos h, up_same]
        · obtain ⟨a1, a2, a3, a4⟩ := h2 j (by omega)
          refine ⟨a1, a2, by rw [xa_ac_do, up_true]; exact Or.inr a3, fun h => ?_⟩
          rw [hwv _ a3]
          exact a4 h
      · intro a ha hta
        rw [xa_ac_do, up_true] at ha
        obtain ha | ha := ha
        · exact ⟨k, by omega, by rw [heq k (Nat.le_refl k), hk]; exact ha⟩
        · obtain ⟨j, hj, e⟩ := h3 a ha hta
          exact ⟨j, by omega, by rw [heq j (by omega)]; exact e⟩
    · refine ⟨k, ?_, ?_, ?_⟩
      · rw [xa_ac_th, up_ne hne, heq k (Nat.le_refl k)]
        exact h1
      · intro j hj
        rw [heq j (by omega)]
        obtain ⟨a1, a2, a3, a4⟩ := h2 j hj
        refine ⟨a1, a2, by rw [xa_ac_do, up_true]; exact Or.inr a3, fun h => ?_⟩
        rw [hwv _ a3]
        exact a4 h
      · intro a ha hta
        rw [xa_ac_do, up_true] at ha
        obtain ha | ha := ha
        · subst ha
          exact (hne (hta.symm.trans htn)).elim
        · obtain ⟨j, hj, e⟩ := h3 a ha hta
          exact ⟨j, hj, by rw [heq j (by omega)]; exact e⟩
theorem xa_rp_em {P : PA} {s : AS} {m : Nat} (R : xa_rp P s) : xa_rp P (xa_em P s m) := R
theorem xa_ph_in {P : PA} {V : Nat → Bool} {o : Nat} (W : xa_wf P) : ∀ (p : List (Nat × Nat)) (s s' : AS), xa_in P o s → xa_rp P s → xa_ph P V o p s s' → xa_in P o s' ∧ xa_rp P s' := by
  intro p
  induction p with
  | nil => intro s s' I R h; cases h; exact ⟨I, R⟩
  | cons q p ih =>
    intro s s' I R h
    obtain ⟨h1, h2, h3, h4⟩ | ⟨h1, h2, h3⟩ := h
    · exact ih _ _ (xa_in_ac W I h2 h3) (xa_rp_ac W I R h2 h3) h4
    · exact ih _ _ (xa_in_em I h2) (xa_rp_em R) h3
/-- what is done stays, and what it saw -/
theorem xa_ph_st {P : PA} {V : Nat → Bool} {o : Nat} (W : xa_wf P) : ∀ (p : List (Nat × Nat)) (s s' : AS), xa_in P o s → xa_ph P V o p s s' → ∀ n, as_do s n → as_do s' n ∧ as_sa s' n = as_sa s n := by
  intro p
  induction p with
  | nil => intro s s' I h; cases h; intro n hn; exact ⟨hn, rfl⟩
  | cons q p ih =>
    intro s s' I h n hn
    obtain ⟨h1, h2, h3, h4⟩ | ⟨h1, h2, h3⟩ := h
    · have := ih _ _ (xa_in_ac W I h2 h3) h4 n (by rw [xa_ac_do, up_true]; exact Or.inr hn)
      refine ⟨this.1, this.2.trans ?_⟩
      rw [xa_ac_sa, up_ne (do_ne hn (xa_nx_nd W I h2.1 h2.2.1))]
    · exact ih _ _ (xa_in_em I h2) h3 n hn
/-- a least one -/
theorem nt_least {p : Nat → Prop} : ∀ n, p n → ∃ m, p m ∧ ∀ m', m' < m → ¬ p m' := by
  intro n
  induction n using Nat.strongRecOn with
  | ind n ih =>
    intro hn
    by_cases h : ∃ m', m' < n ∧ p m'
    · obtain ⟨m', h1, h2⟩ := h
      exact ih m' h1 h2
    · exact ⟨n, hn, fun m' h1 h2 => h ⟨m', h1, h2⟩⟩
theorem xa_end_qe {P : PA} {V : Nat → Bool} {s : AS} {t : Nat} (ht : t < pa_nt P) (he : xa_end P V s) : xa_qe P s t := by
  intro m h1 h2
  obtain ⟨m', ⟨h3, h4⟩, h5⟩ := nt_least (p := fun m => as_qu s m ∧ xa_th P m = t) m ⟨h1, h2⟩
  exact (he t).2 m' ⟨ht, h3, h4, fun m'' a b c => h5 m'' a ⟨b, c⟩⟩
def xa_cc (P : PA) (s s2 : AS) : Prop := ∀ n, as_do s n → as_do s2 n ∧ (xa_op P n = 1 → as_wv s n = as_wv s2 n)
theorem xa_cc_tr {P : PA} {s s2 : AS} {t k : Nat} (R : xa_rp P s) (C : xa_cc P s s2) (hsa : ∀ n, as_do s n → as_sa s n = as_sa s2 n) (hj : ∀ j, j < k → as_do s (xa_tr P (as_sa s) (as_wv s) t j).2) : ∀ j, j ≤ k → xa_tr P (as_sa s2) (as_wv s2) t j = xa_tr P (as_sa s) (as_wv s) t j := by
  apply xa_tr_eq
  intro j hjk
  refine ⟨(hsa _ (hj j hjk)).symm, ?_⟩
  unfold xa_vw
  split
  · rfl
  · have := R.1 (xa_tr P (as_sa s) (as_wv s) t j).2 (as_sa s (xa_tr P (as_sa s) (as_wv s) t j).2 - 1) (by omega)
    exact ((C _ this.2.1).2 this.2.2).symm
theorem xa_kk {P : PA} {o : Nat} {s s2 : AS} {t k k2 : Nat} (I2 : xa_in P o s2) (C : xa_cc P s s2) (h2 : as_th s2 t = xa_tr P (as_sa s2) (as_wv s2) t k2) (htr : ∀ j, j ≤ k → xa_tr P (as_sa s2) (as_wv s2) t j = xa_tr P (as_sa s) (as_wv s) t j) (hd : ∀ j, j < k → xa_th P (xa_tr P (as_sa s) (as_wv s) t j).2 = t ∧ as_do s (xa_tr P (as_sa s) (as_wv s) t j).2) : k ≤ k2 := by
  apply Nat.le_of_not_lt
  intro hlt
  obtain ⟨h3, h4⟩ := hd k2 hlt
  have h5 := (I2.2.1 _ (C _ h4).1).2
  rw [h3] at h5
  have h6 : xa_nx s2 t = (xa_tr P (as_sa s) (as_wv s) t k2).2 := by
    unfold xa_nx
    rw [h2, htr k2 (by omega)]
  omega
theorem xa_uq {P : PA} {V : Nat → Bool} {o : Nat} {s1 s2 : AS} (W : xa_wf P) (I2 : xa_in P o s2) (R2 : xa_rp P s2) (E2 : xa_end P V s2) (hsa : ∀ n, as_do s1 n → as_sa s1 n = as_sa s2 n) (hlo : ∀ n, xa_op P n = 3 → as_do s1 n → as_do s2 n) :
    ∀ (p : List (Nat × Nat)) (s : AS), xa_in P o s → xa_rp P s → xa_cc P s s2 → xa_ph P V o p s s1 → xa_cc P s1 s2 := by
  intro p
  induction p with
  | nil => intro s I R C h; cases h; exact C
  | cons q p ih =>
    intro s I R C h
    have hst := xa_ph_st W (q :: p) s s1 I h
    obtain ⟨h1, he, hs, h4⟩ | ⟨h1, h2, h3⟩ := h
    · obtain ⟨t, w⟩ := q
      have I' := xa_in_ac W I he hs
      refine ih _ I' (xa_rp_ac W I R he hs) ?_ h4
      have htn := xa_nx_th W I he.1 he.2.1
      have hnd := xa_nx_nd W I he.1 he.2.1
      have hst' := xa_ph_st W p _ s1 I' h4
      obtain ⟨k, a1, a2, a3⟩ := R.2 t he.1
      obtain ⟨k2, b1, b2, b3⟩ := R2.2 t he.1
      have htr := xa_cc_tr (k := k) R C (fun n hn => by rw [← (hst n hn).2]; exact hsa n (hst n hn).1) (fun j hj => (a2 j hj).2.2.1)
      have hkk := xa_kk I2 C b1 htr (fun j hj => ⟨(a2 j hj).2.1, (a2 j hj).2.2.1⟩)
      have hk : xa_tr P (as_sa s) (as_wv s) t k = ((xa_lm s t, xa_nx s t) : TS) := by rw [← a1]; rfl
      intro n hn
      change as_do (xa_ac P V o s t w) n at hn
      rw [xa_ac_do, up_true] at hn
      by_cases hn' : as_do s n
      · refine ⟨(C n hn').1, fun ho => ?_⟩
        show as_wv (xa_ac P V o s t w) n = _
        rw [xa_ac_wv]
        split
        · rw [up_ne (do_ne hn' hnd)]
          exact (C n hn').2 ho
        · exact (C n hn').2 ho
      · obtain hn | hn := hn
        · subst hn
          by_cases hlt : k < k2
          · obtain ⟨c1, c2, c3, c4⟩ := b2 k hlt
            rw [htr k (Nat.le_refl k), hk] at c3 c4
            refine ⟨c3, fun ho => ?_⟩
            show as_wv (xa_ac P V o s t w) (xa_nx s t) = _
            rw [xa_ac_wv, if_pos ho, up_same]
            exact (c4 ho).symm
          · exfalso
            obtain rfl : k = k2 := by omega
            have e : as_th s2 t = ((xa_lm s t, xa_nx s t) : TS) := by rw [b1, htr k (Nat.le_refl k), hk]
            have e1 : xa_nx s2 t = xa_nx s t := by unfold xa_nx; rw [e]; rfl
            have e2 : xa_lm s2 t = xa_lm s t := by unfold xa_lm; rw [e]; rfl
            have hq := xa_end_qe he.1 E2
            have hd1 : as_do s1 (xa_nx s t) := (hst' (xa_nx s t) (by show as_do (xa_ac P V o s t w) _; rw [xa_ac_do, up_true]; exact Or.inl rfl)).1
            have hnd2 : ¬ as_do s2 (xa_nx s t) := by
              intro hd
              have := (I2.2.1 _ hd).2
              rw [htn, e1] at this
              omega
            refine (E2 t).1 ⟨he.1, ?_, ?_, ?_, ?_, ?_⟩
            · rw [e1]; exact he.2.1
            · exact fun _ _ => hq
            · rw [e1, e2]; exact he.2.2.2.1
            · rw [e1]; intro h3; exact (hnd2 (hlo _ h3 hd1)).elim
            · exact fun _ => hq
        · exact (hn' hn).elim
    · exact ih _ (xa_in_em I h2) (xa_rp_em R) C h3
