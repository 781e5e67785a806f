/-! ===== the code's rows as a program of the mid picture ===== -/
def kw_e (K : Nat → Nat → Int32) (te ow : Nat → Nat) (na nt sz e : Nat) : Prop :=
  te e < nt ∧ ∃ op, K 0 e = nI op ∧ op ≤ 10 ∧ (op ≤ 5 → ∃ n, n < na ∧ K 6 e = nI n ∧ K 8 n = nI e) ∧ (6 ≤ op → K 6 e = -1) ∧ (op ≠ 10 → e + 1 < sz ∧ te (e + 1) = te e) ∧
  ((op = 0 ∨ op = 1 ∨ op = 2) → ∃ c, c < 6 ∧ K 4 e = nI c) ∧ ((op = 3 ∨ op = 4) → ∃ m, m < 2 ∧ K 4 e = nI m) ∧
  ((op = 0 ∨ op = 2 ∨ op = 6 ∨ op = 7) → ∃ l, l < 5 ∧ K 1 e = nI l ∧ ow l = te e) ∧
  (op = 2 → ∃ b, b < 5 ∧ K 2 e = nI b ∧ ow b = te e) ∧
  ((op = 1 ∨ op = 6) → (K 2 e = -1 ∨ ∃ b, b < 5 ∧ K 2 e = nI b ∧ ow b = te e) ∧ (K 3 e = -1 ∨ ∃ d, d ≤ 9 ∧ K 3 e = nI d)) ∧
  (op = 7 → ∃ d, d ≤ 9 ∧ K 3 e = nI d) ∧
  ((op = 7 ∨ op = 8) → ∃ j, K 5 e = nI j ∧ e < j ∧ j < sz ∧ te j = te e) ∧
  (op = 10 → ∀ e', e < e' → e' < sz → te e' ≠ te e)
def KW (K : Nat → Nat → Int32) (te ow : Nat → Nat) (na nt sz : Nat) : Prop :=
  na ≤ 8 ∧ nt ≤ 4 ∧ sz ≤ 64 ∧ K 10 12 = nI na ∧ K 10 11 = nI nt ∧
  (∀ t, t < nt → ∃ s, K 7 t = nI s ∧ s < sz ∧ te s = t) ∧
  (∀ n, n < na → ∃ e, K 8 n = nI e ∧ e < sz ∧ K 6 e = nI n ∧ K 9 n = nI (te e) ∧ ∃ op, K 0 e = nI op ∧ op ≤ 5) ∧
  (∀ e, e < sz → kw_e K te ow na nt sz e) ∧
  (∀ e e' n n', e < e' → e' < sz → K 6 e = nI n → K 6 e' = nI n' → n < na → n' < na → n < n') ∧
  (K 10 17 = -1 ∨ ∃ d m ed, K 10 17 = nI d ∧ d < na ∧ K 10 16 = nI m ∧ m < nt ∧ K 8 d = nI ed ∧ ed < sz ∧ K 9 d = nI m ∧ K 0 ed = nI 5 ∧ (∀ s, K 7 m = nI s → s < sz → s ≤ ed) ∧ ∀ e j op, e < ed → te e = m → K 0 e = nI op → (op = 7 ∨ op = 8) → K 5 e = nI j → j < sz → j ≤ ed)
def w_su (K : Nat → Nat → Int32) (lm : LM) (e : Nat) : Int32 := m_m10 (if K 2 e = -1 then (if K 3 e = -1 then 0 else K 3 e) else (if K 3 e = -1 then 0 else K 3 e) + lm.1 (ix (K 2 e)))
def w_lm (K : Nat → Nat → Int32) (lm : LM) (e : Nat) : LM := if K 0 e = 6 then (up_1 lm.1 (ix (K 1 e)) (w_su K lm e), up_1 lm.2 (ix (K 1 e)) 0) else lm
def w_nx (K : Nat → Nat → Int32) (lm : LM) (e : Nat) : Nat := if K 0 e = 8 then ix (K 5 e) else if K 0 e = 7 then (if lm.1 (ix (K 1 e)) = K 3 e then e + 1 else ix (K 5 e)) else e + 1
def w_go (K : Nat → Nat → Int32) : Nat → LM → Nat → TS
  | 0, lm, _ => (lm, 8)
  | n + 1, lm, e => if K 0 e = 10 then (lm, 8) else if K 6 e = -1 then w_go K n (w_lm K lm e) (w_nx K lm e) else (lm, ix (K 6 e))
def KP (K : Nat → Nat → Int32) : PA :=
  (ix (K 10 12), ix (K 10 11), fun n k => if k = 0 then ix (K 9 n) else ix (K (if k = 1 then 0 else if k = 2 then 4 else if k = 3 then 1 else 2) (ix (K 8 n))),
   fun n lm => w_go K 64 lm (ix (K 8 n) + 1), fun t => w_go K 64 (fun _ => 0, fun _ => 0) (ix (K 7 t)), fun n lm => w_su K lm (ix (K 8 n)), ix (K 10 16), if K 10 17 = -1 then 8 else ix (K 10 17))
theorem ix_nI {n : Nat} (h : n < 2 ^ 31) : ix (nI n) = n := nI_clamp h
theorem nI_ne1 {n : Nat} (h : n < 2 ^ 31) : nI n ≠ -1 := by
  intro e
  have := nI_pos h
  rw [e] at this
  exact this (by decide)
section
variable {K : Nat → Nat → Int32} {te ow : Nat → Nat} {na nt sz : Nat}
theorem w_step (Z : KW K te ow na nt sz) {lm : LM} {e : Nat} (he : e < sz) (h10 : ¬ K 0 e = 10) (h6 : K 6 e = -1) : w_nx K lm e < sz ∧ te (w_nx K lm e) = te e ∧ e < w_nx K lm e := by
  have hsz := Z.2.2.1
  obtain ⟨-, op, a1, a2, a3, a4, a5, -, -, -, -, -, -, a6, -⟩ := Z.2.2.2.2.2.2.2.1 e he
  have hop : op ≠ 10 := fun h => h10 (by rw [a1, h]; rfl)
  obtain ⟨b1, b2⟩ := a5 hop
  unfold w_nx
  split
  · rename_i h
    rw [a1, show (8 : Int32) = nI 8 from rfl, nI_eq (by omega) (by omega)] at h
    obtain ⟨j, c1, c2, c3, c4⟩ := a6 (Or.inr h)
    rw [c1, ix_nI (by omega)]
    exact ⟨c3, c4, c2⟩
  · split
    · rename_i h
      rw [a1, show (7 : Int32) = nI 7 from rfl, nI_eq (by omega) (by omega)] at h
      obtain ⟨j, c1, c2, c3, c4⟩ := a6 (Or.inl h)
      split
      · exact ⟨b1, b2, Nat.lt_succ_self e⟩
      · rw [c1, ix_nI (by omega)]
        exact ⟨c3, c4, c2⟩
    · exact ⟨b1, b2, Nat.lt_succ_self e⟩
theorem w_go_nx (Z : KW K te ow na nt sz) : ∀ (n : Nat) (lm : LM) (e : Nat), e < sz → (w_go K n lm e).2 = 8 ∨ ∃ e', e ≤ e' ∧ e' < sz ∧ te e' = te e ∧ K 6 e' = nI (w_go K n lm e).2 ∧ (w_go K n lm e).2 < na := by
  intro n
  induction n with
  | zero => intro lm e _; exact Or.inl rfl
  | succ n ih =>
    intro lm e he
    unfold w_go
    split
    · exact Or.inl rfl
    · rename_i h10
      split
      · rename_i h6
        obtain ⟨a1, a2, a3⟩ := w_step Z (lm := lm) he h10 h6
        obtain h | ⟨e', b1, b2, b3, b4, b5⟩ := ih (w_lm K lm e) (w_nx K lm e) a1
        · exact Or.inl h
        · exact Or.inr ⟨e', by omega, b2, b3.trans a2, b4, b5⟩
      · rename_i h6
        obtain ⟨-, op, a1, a2, a3, a4, -⟩ := Z.2.2.2.2.2.2.2.1 e he
        have hop : op ≤ 5 := by
          apply Nat.le_of_not_lt
          intro h
          exact h6 (a4 h)
        obtain ⟨m, c1, c2, c3⟩ := a3 hop
        have := Z.1
        refine Or.inr ⟨e, Nat.le_refl e, he, rfl, ?_, ?_⟩
        · show K 6 e = nI (ix (K 6 e))
          rw [c2, ix_nI (by omega)]
        · show ix (K 6 e) < na
          rw [c2, ix_nI (by omega)]; exact c1
theorem w_go_sr : ∀ (n : Nat) (lm : LM) (e l : Nat), (w_go K n lm e).1.2 l = 0 ∨ (w_go K n lm e).1.2 l = lm.2 l := by
  intro n
  induction n with
  | zero => intro lm e l; exact Or.inr rfl
  | succ n ih =>
    intro lm e l
    unfold w_go
    split
    · exact Or.inr rfl
    · split
      · obtain h | h := ih (w_lm K lm e) (w_nx K lm e) l
        · exact Or.inl h
        · rw [h]
          unfold w_lm
          split
          · show up_1 lm.2 (ix (K 1 e)) 0 l = 0 ∨ up_1 lm.2 (ix (K 1 e)) 0 l = lm.2 l
            by_cases hl : l = ix (K 1 e)
            · rw [hl, up_same]; exact Or.inl rfl
            · rw [up_ne hl]; exact Or.inr rfl
          · exact Or.inr rfl
      · exact Or.inr rfl
theorem kp_act (Z : KW K te ow na nt sz) {n : Nat} (hn : n < na) : ∃ e op, e < sz ∧ K 8 n = nI e ∧ ix (K 8 n) = e ∧ K 6 e = nI n ∧ K 0 e = nI op ∧ op ≤ 5 ∧ K 9 n = nI (te e) ∧ xa_th (KP K) n = te e ∧ xa_op (KP K) n = op ∧ te e < nt := by
  have hsz := Z.2.2.1
  obtain ⟨e, a1, a2, a3, a4, op, a5, a6⟩ := Z.2.2.2.2.2.2.1 n hn
  have hte := (Z.2.2.2.2.2.2.2.1 e a2).1
  have hnt := Z.2.1
  refine ⟨e, op, a2, a1, by rw [a1, ix_nI (by omega)], a3, a5, a6, a4, ?_, ?_, hte⟩
  · show ix (K 9 n) = te e
    rw [a4, ix_nI (by omega)]
  · show ix (K 0 (ix (K 8 n))) = op
    rw [a1, ix_nI (by omega), a5, ix_nI (by omega)]
theorem kp_na (Z : KW K te ow na nt sz) : pa_na (KP K) = na := by
  have := Z.1
  show ix (K 10 12) = na
  rw [Z.2.2.2.1, ix_nI (by omega)]
theorem kp_nt (Z : KW K te ow na nt sz) : pa_nt (KP K) = nt := by
  have := Z.2.1
  show ix (K 10 11) = nt
  rw [Z.2.2.2.2.1, ix_nI (by omega)]
theorem kp_wf (Z : KW K te ow na nt sz) : xa_wf (KP K) := by
  have hna := Z.1
  have hnt := Z.2.1
  have hsz := Z.2.2.1
  refine ⟨?_, ?_, ?_, ?_, ?_, ?_, ?_⟩
  · intro t ht
    rw [kp_nt Z] at ht
    rw [kp_na Z]
    obtain ⟨s, a1, a2, a3⟩ := Z.2.2.2.2.2.1 t ht
    show (w_go K 64 _ (ix (K 7 t))).2 = 8 ∨ _
    rw [show (pa_ks (KP K) t).2 = (w_go K 64 (fun _ => 0, fun _ => 0) (ix (K 7 t))).2 from rfl, a1, ix_nI (by omega)]
    obtain h | ⟨e', b1, b2, b3, b4, b5⟩ := w_go_nx Z 64 (fun _ => 0, fun _ => 0) s a2
    · exact Or.inl h
    · refine Or.inr ⟨b5, ?_⟩
      obtain ⟨e, op, c1, c2, c3, c4, c5, c6, c7, c8, -⟩ := kp_act Z b5
      rw [c8]
      have : e = e' := by
        apply Classical.byContradiction
        intro hne
        obtain h | h := Nat.lt_or_gt_of_ne hne
        · exact absurd (Z.2.2.2.2.2.2.2.2.1 e e' _ _ h b2 c4 b4 b5 b5) (Nat.lt_irrefl _)
        · exact absurd (Z.2.2.2.2.2.2.2.2.1 e' e _ _ h c1 b4 c4 b5 b5) (Nat.lt_irrefl _)
      rw [this, b3, a3]
  · intro n lm hn
    rw [kp_na Z] at hn
    rw [kp_na Z]
    obtain ⟨e0, op0, d1, d2, d3, d4, d5, d6, d7, d8, -⟩ := kp_act Z hn
    obtain ⟨-, op1, f1, f2, f3, f4, f5, -⟩ := Z.2.2.2.2.2.2.2.1 e0 d1
    have : op1 = op0 := by rw [d5, nI_eq (by omega) (by omega)] at f1; exact f1.symm
    obtain ⟨g1, g2⟩ := f5 (by omega)
    rw [show (pa_kc (KP K) n lm).2 = (w_go K 64 lm (ix (K 8 n) + 1)).2 from rfl, d3]
    obtain h | ⟨e', b1, b2, b3, b4, b5⟩ := w_go_nx Z 64 lm (e0 + 1) g1
    · exact Or.inl h
    · refine Or.inr ⟨b5, ?_, Z.2.2.2.2.2.2.2.2.1 e0 e' _ _ (by omega) b2 d4 b4 hn b5⟩
      obtain ⟨e, op, c1, c2, c3, c4, c5, c6, c7, c8, -⟩ := kp_act Z b5
      rw [c8, d8]
      have : e = e' := by
        apply Classical.byContradiction
        intro hne
        obtain h | h := Nat.lt_or_gt_of_ne hne
        · exact absurd (Z.2.2.2.2.2.2.2.2.1 e e' _ _ h b2 c4 b4 b5 b5) (Nat.lt_irrefl _)
        · exact absurd (Z.2.2.2.2.2.2.2.2.1 e' e _ _ h c1 b4 c4 b5 b5) (Nat.lt_irrefl _)
      rw [this, b3, g2]
  · intro n hn
    rw [kp_na Z] at hn
    rw [kp_nt Z]
    obtain ⟨e, op, c1, c2, c3, c4, c5, c6, c7, c8, c9, c10⟩ := kp_act Z hn
    rw [c8]; exact c10
  · rw [kp_na Z]; exact hna
  · intro n lm l
    exact w_go_sr 64 lm _ l
  · intro t l
    obtain h | h := w_go_sr (K := K) 64 (fun _ => 0, fun _ => 0) (ix (K 7 t)) l
    · exact h
    · exact h
  · intro hd
    rw [kp_na Z] at hd
    obtain h | ⟨d, m, ed, a1, a2, a3, a4, a5, -, a6, -⟩ := Z.2.2.2.2.2.2.2.2.2
    · have : pa_dn (KP K) = 8 := if_pos h
      omega
    · have e1 : pa_dn (KP K) = d := by
        show (if K 10 17 = -1 then 8 else ix (K 10 17)) = d
        rw [a1, if_neg (nI_ne1 (by omega)), ix_nI (by omega)]
      rw [e1]
      show ix (K 9 d) = ix (K 10 16)
      rw [a6, a3]
/-- done lies on every road of its thread -/
theorem w_go_dn (Z : KW K te ow na nt sz) {d m ed : Nat} (hd : d < na) (h8 : K 8 d = nI ed) (hes : ed < sz) (h9 : K 9 d = nI m) (hm : m < nt) (hj : ∀ e j op, e < ed → te e = m → K 0 e = nI op → (op = 7 ∨ op = 8) → K 5 e = nI j → j < sz → j ≤ ed) : ∀ (n : Nat) (lm : LM) (e : Nat), e ≤ ed → te e = m → ed < e + n → (w_go K n lm e).2 ≤ d := by
  have hna := Z.1
  have hsz := Z.2.2.1
  have hnt := Z.2.1
  obtain ⟨e1, op1, c1, c2, c3, c4, c5, c6, c7, -⟩ := kp_act Z hd
  have hed : ed = e1 := by rw [h8, nI_eq (by omega) (by omega)] at c2; exact c2
  intro n
  induction n with
  | zero => intro lm e h1 h2 h3; omega
  | succ n ih =>
    intro lm e h1 h2 h3
    have he : e < sz := by omega
    obtain ⟨-, op, a1, a2, a3, a4, a5, -, -, -, -, -, -, a6, a7⟩ := Z.2.2.2.2.2.2.2.1 e he
    by_cases hlt : e = ed
    · subst hlt
      unfold w_go
      rw [if_neg (by rw [hed, c5, show (10 : Int32) = nI 10 from rfl, nI_eq (by omega) (by omega)]; omega), if_neg (by rw [hed, c4]; exact nI_ne1 (by omega))]
      show ix (K 6 e) ≤ d
      rw [hed, c4, ix_nI (by omega)]
      exact Nat.le_refl d
    · unfold w_go
      split
      · rename_i h10
        exfalso
        rw [a1, show (10 : Int32) = nI 10 from rfl, nI_eq (by omega) (by omega)] at h10
        refine a7 h10 ed (by omega) hes ?_
        rw [h2, hed]
        rw [c7, nI_eq (by have := (Z.2.2.2.2.2.2.2.1 e1 c1).1; omega) (by omega)] at h9
        exact h9
      · rename_i h10
        split
        · rename_i h6
          obtain ⟨b1, b2, b3⟩ := w_step Z (lm := lm) he h10 h6
          apply ih
          · unfold w_nx
            split
            · rename_i h
              rw [a1, show (8 : Int32) = nI 8 from rfl, nI_eq (by omega) (by omega)] at h
              obtain ⟨j, d1, d2, d3, d4⟩ := a6 (Or.inr h)
              rw [d1, ix_nI (by omega)]
              exact hj e j op (by omega) h2 a1 (Or.inr h) d1 d3
            · split
              · rename_i h
                rw [a1, show (7 : Int32) = nI 7 from rfl, nI_eq (by omega) (by omega)] at h
                obtain ⟨j, d1, d2, d3, d4⟩ := a6 (Or.inl h)
                split
                · omega
                · rw [d1, ix_nI (by omega)]
                  exact hj e j op (by omega) h2 a1 (Or.inl h) d1 d3
              · omega
          · exact b2.trans h2
          · omega
        · rename_i h6
          show ix (K 6 e) ≤ d
          have hop : op ≤ 5 := by
            apply Nat.le_of_not_lt
            intro h
            exact h6 (a4 h)
          obtain ⟨q, q1, q2, q3⟩ := a3 hop
          rw [q2, ix_nI (by omega)]
          exact Nat.le_of_lt (Z.2.2.2.2.2.2.2.2.1 e ed q d (by omega) (by omega) q2 (by rw [hed]; exact c4) q1 hd)
end
