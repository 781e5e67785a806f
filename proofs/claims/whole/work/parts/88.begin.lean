/-! ===== the beginning of a search ===== -/
/-- only rows in R have changed, and only their ints -/
def FI (R : Nat → Prop) (g g' : AH) : Prop := hp_n g' = hp_n g ∧ hp_s g' = hp_s g ∧ hp_k g' = hp_k g ∧ hp_l g' = hp_l g ∧ hp_j g' = hp_j g ∧ hp_r g' = hp_r g ∧ ∀ r, ¬ R r → hp_i g' r = hp_i g r
theorem FI_rf {R : Nat → Prop} {g : AH} : FI R g g := ⟨rfl, rfl, rfl, rfl, rfl, rfl, fun _ _ => rfl⟩
theorem FI_tr {R : Nat → Prop} {g g1 g2 : AH} (a : FI R g g1) (b : FI R g1 g2) : FI R g g2 := ⟨b.1.trans a.1, b.2.1.trans a.2.1, b.2.2.1.trans a.2.2.1, b.2.2.2.1.trans a.2.2.2.1, b.2.2.2.2.1.trans a.2.2.2.2.1, b.2.2.2.2.2.1.trans a.2.2.2.2.2.1, fun r h => (b.2.2.2.2.2.2 r h).trans (a.2.2.2.2.2.2 r h)⟩
theorem FI_st {R : Nat → Prop} {g : AH} {r k : Nat} {v : Int32} (h : R r) : FI R g (st_i g r k v) := ⟨rfl, rfl, rfl, rfl, rfl, rfl, fun r' h' => sti_r (fun e => h' (e ▸ h))⟩
theorem FI_mono {R R' : Nat → Prop} {g g' : AH} (h : ∀ r, R r → R' r) (a : FI R g g') : FI R' g g' := ⟨a.1, a.2.1, a.2.2.1, a.2.2.2.1, a.2.2.2.2.1, a.2.2.2.2.2.1, fun r h' => a.2.2.2.2.2.2 r (fun e => h' (h r e))⟩
theorem FI_ok {R : Nat → Prop} {g g' : AH} {r c : Nat} (a : FI R g g') (o : ok_o g r c) : ok_o g' r c := ⟨o.1, by rw [a.1]; exact o.2.1, by rw [a.2.2.1]; exact o.2.2⟩
theorem si_row {g : AH} {r i : Nat} {v : Int32} (ok : ok_o g r 100) (hi : i < hp_l g r) (hl : hp_l g r ≤ 2 ^ 30) : s_i g r (nI i) v = some (st_i g r i v) := by
  have e : s_i g r (nI i) v = some (st_i g r (nI i).toNatClampNeg v) := if_pos ⟨ok, nI_pos (by omega), by rw [nI_clamp (by omega)]; exact hi⟩
  rw [e, nI_clamp (by omega)]
/-- Arrays.fill -/
theorem e_fill {r : Nat} {v : Int32} {l : Nat} (hl : l ≤ 100000) : ∀ (n : Nat), n ≤ l → ∀ (fu : Nat) (g : AH), n < fu → ok_o g r 100 → hp_l g r = l → (∀ j, j < l - n → hp_i g r j = v) → ∃ g', l_J7_fill_53178_5 fu r v (nI (l - n)) (nI l) g = some g' ∧ FI (fun x => x = r) g g' ∧ ∀ j, j < l → hp_i g' r j = v := by
  intro n
  induction n with
  | zero =>
    intro _ fu g hf ok el hc
    obtain ⟨fu, rfl⟩ : ∃ f, fu = f + 1 := ⟨fu - 1, by omega⟩
    refine ⟨g, ?_, FI_rf, fun j hj => hc j (by omega)⟩
    show b_J7_fill_53178_5 (l_J7_fill_53178_5 fu) r v (nI (l - 0)) (nI l) g = _
    unfold b_J7_fill_53178_5
    rw [if_pos (nI_le (by omega) (by omega))]
    rfl
  | succ n ih =>
    intro hn fu g hf ok el hc
    obtain ⟨fu, rfl⟩ : ∃ f, fu = f + 1 := ⟨fu - 1, by omega⟩
    have hs : nI (l - (n + 1)) + 1 = nI (l - n) := by rw [nI_1]; congr 1; omega
    show ∃ g', b_J7_fill_53178_5 (l_J7_fill_53178_5 fu) r v (nI (l - (n + 1))) (nI l) g = some g' ∧ _
    unfold b_J7_fill_53178_5
    rw [if_neg (nI_ge (by omega) (by omega))]
    unfold b_J7_fill_53178_10
    rw [si_row ok (by omega) (by omega), Option.bind_some, hs]
    obtain ⟨g', q1, q2, q3⟩ := ih (by omega) fu (st_i g r (l - (n + 1)) v) (by omega) ok el (fun j hj => by
      by_cases e : j = l - (n + 1)
      · rw [e, sti_s]
      · rw [sti_k e]; exact hc j (by omega))
    exact ⟨g', q1, FI_tr (FI_st (R := fun x => x = r) rfl) q2, q3⟩
theorem e_fil {r : Nat} {v : Int32} {g : AH} (ok : ok_o g r 100) (hl : hp_l g r ≤ 100000) : ∃ g', f_J7_fill_53178 r v g = some g' ∧ FI (fun x => x = r) g g' ∧ ∀ j, j < hp_l g r → hp_i g' r j = v := by
  obtain ⟨g', q1, q2, q3⟩ := e_fill (r := r) (v := v) hl (hp_l g r) (Nat.le_refl _) fu_ g (by unfold fu_; omega) ok rfl (fun j hj => by omega)
  refine ⟨g', ?_, q2, q3⟩
  unfold f_J7_fill_53178 b_J7_fill_53178_0
  rw [al_row ok, Option.bind_some]
  rw [Nat.sub_self] at q1
  exact q1
/-- the rows of a code -/
def CV (h : AH) (co : Nat) (K : Nat → Nat → Int32) : Prop := ok_o h co 0 ∧ (∀ i, i < 10 → ok_o h (hp_r h co i) 100 ∧ hp_l h (hp_r h co i) = m_len i ∧ hp_i h (hp_r h co i) = K i) ∧ hp_i h co = K 10
section
variable {g : AH} {K : Nat → Nat → Int32} {te ow : Nat → Nat} {na nt sz co : Nat}
theorem cv_r (V : CV g co K) (i : Nat) : g_r g co 0 i = some (hp_r g co i) := if_pos V.1
theorem cv_i (V : CV g co K) (i : Nat) : g_i g co 0 i = some (K 10 i) := by rw [← V.2.2]; exact if_pos V.1
theorem cv_v (V : CV g co K) : ok_v g co 0 = some () := if_pos V.1
theorem cv_l (V : CV g co K) {i : Nat} (hi : i < 10) {x : Int32} (hx : m_in x (m_len i)) : l_i g (hp_r g co i) x = some (K i (ix x)) := by
  obtain ⟨h1, h2, h3⟩ := V.2.1 i hi
  rw [← h3]
  exact if_pos ⟨h1, hx.1, by rw [h2]; exact hx.2⟩
theorem cv_fi {R : Nat → Prop} {g' : AH} (V : CV g co K) (F : FI R g g') (d : ¬ R co) (d' : ∀ i, i < 10 → ¬ R (hp_r g co i)) : CV g' co K := by
  obtain ⟨f1, f2, f3, f4, f5, f6, f7⟩ := F
  refine ⟨FI_ok ⟨f1, f2, f3, f4, f5, f6, f7⟩ V.1, fun i hi => ?_, by rw [f7 co d]; exact V.2.2⟩
  obtain ⟨a, b, c⟩ := V.2.1 i hi
  rw [f6]
  exact ⟨FI_ok ⟨f1, f2, f3, f4, f5, f6, f7⟩ a, by rw [f4]; exact b, by rw [f7 _ (d' i hi)]; exact c⟩
theorem e_onl (V : CV g co K) (Z : KW K te ow na nt sz) {kd th : Nat} (hk : kd ≤ 10) (ht : th < 100) : ∀ (n : Nat), n ≤ na → ∀ (fu X : Nat), n < fu → X < 2 ^ (na - n) → ∃ w, w < 2 ^ na ∧ l_X0_actionsOn_5 fu co (nI kd) (nI th) (nI X) (nI (na - n)) g = some (nI w, g) ∧ ∀ i, i < 8 → (w.testBit i = true ↔ X.testBit i = true ∨ (na - n ≤ i ∧ i < na ∧ xa_op (KP K) i = kd ∧ K 4 (ix (K 8 i)) = nI th)) := by
  have hna := Z.1
  have hsz := Z.2.2.1
  intro n
  induction n with
  | zero =>
    intro _ fu X hf hX
    obtain ⟨fu, rfl⟩ : ∃ f, fu = f + 1 := ⟨fu - 1, by omega⟩
    refine ⟨X, hX, ?_, fun i _ => ⟨Or.inl, fun h => h.elim id (fun h => by omega)⟩⟩
    show b_X0_actionsOn_5 (l_X0_actionsOn_5 fu) co (nI kd) (nI th) (nI X) (nI (na - 0)) g = _
    unfold b_X0_actionsOn_5
    rw [cv_i V, Option.bind_some, Z.2.2.2.1, if_pos (nI_le (by omega) (by omega))]
    rfl
  | succ n ih =>
    intro hn fu X hf hX
    obtain ⟨fu, rfl⟩ : ∃ f, fu = f + 1 := ⟨fu - 1, by omega⟩
    have hs : nI (na - (n + 1)) + 1 = nI (na - n) := by rw [nI_1]; congr 1; omega
    have hs' : na - (n + 1) + 1 = na - n := by omega
    have hi : na - (n + 1) < na := by omega
    obtain ⟨e, op, c1, c2, c3, c4, c5, c6, c7, c8, c9, c10⟩ := kp_act Z hi
    have hp8 : 2 ^ (na - n) ≤ 2 ^ 8 := Nat.pow_le_pow_right (by decide) (by omega)
    have hp : 2 ^ (na - n) = 2 * 2 ^ (na - (n + 1)) := by rw [← hs', Nat.pow_succ, Nat.mul_comm]
    have hor : X ||| 2 ^ (na - (n + 1)) < 2 ^ (na - n) := Nat.or_lt_two_pow (by omega) (by omega)
    show ∃ w, _ ∧ b_X0_actionsOn_5 (l_X0_actionsOn_5 fu) co (nI kd) (nI th) (nI X) (nI (na - (n + 1))) g = _ ∧ _
    unfold b_X0_actionsOn_5
    rw [cv_i V, Option.bind_some, Z.2.2.2.1, if_neg (nI_ge (by omega) (by omega))]
    unfold b_X0_actionsOn_14
    rw [if_neg (show ¬ (8 : Int32) ≤ nI (na - (n + 1)) from nI_ge (b := 8) (by omega) (by omega))]
    unfold b_X0_actionsOn_21
    rw [cv_r V, Option.bind_some, cv_l V (by omega) (show m_in (nI (na - (n + 1))) (m_len 8) from m_in_nI (show na - (n + 1) < 8 by omega) (by decide)), Option.bind_some, ix_nI (by omega), cv_r V, Option.bind_some, cv_l V (by omega) (show m_in (K 8 (na - (n + 1)) &&& 63) (m_len 0) from m_in_63 _), Option.bind_some, c2, and_63 (by omega), ix_nI (by omega), c5]
    have stay : ¬ (op = kd ∧ K 4 e = nI th) → ∃ w, w < 2 ^ na ∧ b_X0_actionsOn_62 (l_X0_actionsOn_5 fu) co (nI kd) (nI th) (nI X) (nI (na - (n + 1))) g = some (nI w, g) ∧ ∀ i, i < 8 → (w.testBit i = true ↔ X.testBit i = true ∨ (na - (n + 1) ≤ i ∧ i < na ∧ xa_op (KP K) i = kd ∧ K 4 (ix (K 8 i)) = nI th)) := by
      intro hno
      obtain ⟨w, w1, w2, w3⟩ := ih (by omega) fu X (by omega) (by omega)
      refine ⟨w, w1, ?_, fun i hi8 => ?_⟩
      · unfold b_X0_actionsOn_62
        rw [hs]; exact w2
      · rw [w3 i hi8]
        constructor
        · rintro (h | ⟨h1, h2, h3, h4⟩)
          · exact Or.inl h
          · exact Or.inr ⟨by omega, h2, h3, h4⟩
        · rintro (h | ⟨h1, h2, h3, h4⟩)
          · exact Or.inl h
          · by_cases e' : i = na - (n + 1)
            · subst e'
              rw [c9] at h3
              rw [c3] at h4
              exact absurd ⟨h3, h4⟩ hno
            · exact Or.inr ⟨by omega, h2, h3, h4⟩
    by_cases hk1 : op = kd
    · rw [if_pos (by rw [hk1])]
      unfold b_X0_actionsOn_44
      rw [cv_r V, Option.bind_some, cv_l V (by omega) (show m_in (nI e) (m_len 4) from m_in_nI (show e < 64 by omega) (by decide)), Option.bind_some, ix_nI (by omega)]
      by_cases hk2 : K 4 e = nI th
      · rw [if_pos hk2]
        unfold b_X0_actionsOn_55 b_X0_actionsOn_62
        rw [nI_one (by omega), nI_or (by omega) (by omega), hs]
        obtain ⟨w, w1, w2, w3⟩ := ih (by omega) fu (X ||| 2 ^ (na - (n + 1))) (by omega) hor
        refine ⟨w, w1, w2, fun i hi8 => ?_⟩
        rw [w3 i hi8, tb_or, tb_pw]
        constructor
        · rintro ((h | h) | ⟨h1, h2, h3, h4⟩)
          · exact Or.inl h
          · subst h; exact Or.inr ⟨Nat.le_refl _, hi, c9.trans hk1, by rw [c3]; exact hk2⟩
          · exact Or.inr ⟨by omega, h2, h3, h4⟩
        · rintro (h | ⟨h1, h2, h3, h4⟩)
          · exact Or.inl (Or.inl h)
          · by_cases e' : i = na - (n + 1)
            · exact Or.inl (Or.inr e'.symm)
            · exact Or.inr ⟨by omega, h2, h3, h4⟩
      · rw [if_neg hk2]; exact stay (fun h => hk2 h.2)
    · rw [if_neg (by rw [nI_eq (by omega) (by omega)]; exact hk1)]; exact stay (fun h => hk1 h.1)
theorem e_on (V : CV g co K) (Z : KW K te ow na nt sz) {kd th : Nat} (hk : kd = 1 ∨ kd = 4) (ht : th < 100) : ∃ w, w < 256 ∧ f_X0_actionsOn co (nI kd) (nI th) g = some (nI w, g) ∧ ∀ i, i < 8 → (w.testBit i = true ↔ i < na ∧ xa_op (KP K) i = kd ∧ xa_ob (KP K) i = th) := by
  have hna := Z.1
  have hsz := Z.2.2.1
  obtain ⟨w, w1, w2, w3⟩ := e_onl V Z (kd := kd) (th := th) (by omega) ht na (Nat.le_refl na) fu_ 0 (by unfold fu_; omega) (Nat.two_pow_pos _)
  rw [Nat.sub_self] at w2 w3
  have hp8 : 2 ^ na ≤ 2 ^ 8 := Nat.pow_le_pow_right (by decide) hna
  refine ⟨w, by omega, w2, fun i hi => ?_⟩
  rw [w3 i hi, Nat.zero_testBit]
  constructor
  · rintro (h | ⟨h1, h2, h3, h4⟩)
    · cases h
    · refine ⟨h2, h3, ?_⟩
      show ix (K 4 (ix (K 8 i))) = th
      rw [h4, ix_nI (by omega)]
  · rintro ⟨h2, h3, h4⟩
    refine Or.inr ⟨Nat.zero_le _, h2, h3, ?_⟩
    obtain ⟨e, op, c1, c2, c3, c4, c5, c6, c7, c8, c9, c10⟩ := kp_act Z h2
    obtain ⟨-, op', f1, f2, f3, f4, f5, f6, f7, -⟩ := Z.2.2.2.2.2.2.2.1 e c1
    have hop : op' = op := by rw [c5, nI_eq (by omega) (by omega)] at f1; exact f1.symm
    rw [hop] at f6 f7
    have h4' : ix (K 4 (ix (K 8 i))) = th := h4
    rw [c3] at h4' ⊢
    obtain hk | hk := hk
    · obtain ⟨c, d1, d2⟩ := f6 (by omega)
      rw [d2, ix_nI (by omega)] at h4'
      rw [d2, h4']
    · obtain ⟨c, d1, d2⟩ := f7 (by omega)
      rw [d2, ix_nI (by omega)] at h4'
      rw [d2, h4']
end
