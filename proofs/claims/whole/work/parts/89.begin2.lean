/-! ===== the beginning of a search: the machine ===== -/
def MB (h : AH) (co : Nat) : Prop := ok_o h 75 2 ∧ hp_r h 75 7 = co ∧ (hp_r h 75 4 = 76 ∧ ok_o h 76 100 ∧ hp_l h 76 = 8) ∧ (hp_r h 75 5 = 77 ∧ ok_o h 77 100 ∧ hp_l h 77 = 2) ∧ (hp_r h 75 6 = 78 ∧ ok_o h 78 100 ∧ hp_l h 78 = 4)
def R3 (r : Nat) : Prop := r = 76 ∨ r = 77 ∨ r = 78
def gdM (K : Nat → Nat → Int32) (na kd th : Nat) (x : Int32) : Prop := ∃ w, x = nI w ∧ w < 256 ∧ ∀ n, n < 8 → (w.testBit n = true ↔ n < na ∧ xa_op (KP K) n = kd ∧ xa_ob (KP K) n = th)
section
variable {g : AH} {K : Nat → Nat → Int32} {te ow : Nat → Nat} {na nt sz co : Nat}
theorem mb_fi {g' : AH} (B : MB g co) (F : FI R3 g g') : MB g' co := by
  obtain ⟨b1, b2, b3, b4, b5⟩ := B
  have F' := F
  obtain ⟨f1, f2, f3, f4, f5, f6, f7⟩ := F
  rw [MB, f6, f4]
  exact ⟨FI_ok F' b1, b2, ⟨b3.1, FI_ok F' b3.2.1, b3.2.2⟩, ⟨b4.1, FI_ok F' b4.2.1, b4.2.2⟩, ⟨b5.1, FI_ok F' b5.2.1, b5.2.2⟩⟩
theorem bg_w (Z : KW K te ow na nt sz) (hd : ¬ R3 co) (hd' : ∀ i, i < 10 → ¬ R3 (hp_r g co i)) : ∀ (n : Nat), n ≤ 6 → ∀ (fu : Nat) (g' : AH), n < fu → FI R3 g g' → CV g' co K → MB g' co → (∀ c, c < 6 - n → gdM K na 1 c (hp_i g' 76 c)) → ∃ g2, l_X2_begin_18 fu 75 (nI (6 - n)) g' = b_X2_begin_48 75 g2 ∧ FI R3 g g2 ∧ CV g2 co K ∧ MB g2 co ∧ ∀ c, c < 6 → gdM K na 1 c (hp_i g2 76 c) := by
  intro n
  induction n with
  | zero =>
    intro _ fu g' hf F V B hc
    obtain ⟨fu, rfl⟩ : ∃ f, fu = f + 1 := ⟨fu - 1, by omega⟩
    refine ⟨g', ?_, F, V, B, fun c h => hc c (by omega)⟩
    show b_X2_begin_18 (l_X2_begin_18 fu) 75 (nI 6) g' = _
    unfold b_X2_begin_18
    rw [if_pos (by decide)]
  | succ n ih =>
    intro hn fu g' hf F V B hc
    obtain ⟨fu, rfl⟩ : ∃ f, fu = f + 1 := ⟨fu - 1, by omega⟩
    have hs : nI (6 - (n + 1)) + 1 = nI (6 - n) := by rw [nI_1]; congr 1; omega
    show ∃ g2, b_X2_begin_18 (l_X2_begin_18 fu) 75 (nI (6 - (n + 1))) g' = _ ∧ _
    unfold b_X2_begin_18
    rw [if_neg (show ¬ (6 : Int32) ≤ nI (6 - (n + 1)) from nI_ge (b := 6) (by omega) (by omega))]
    unfold b_X2_begin_25
    obtain ⟨w, w1, w2, w3⟩ := e_on V Z (kd := 1) (th := 6 - (n + 1)) (Or.inl rfl) (by omega)
    rw [show g_r g' 75 2 4 = some (hp_r g' 75 4) from if_pos B.1, B.2.2.1.1, Option.bind_some, show g_r g' 75 2 7 = some (hp_r g' 75 7) from if_pos B.1, B.2.1, Option.bind_some, cv_v V, Option.bind_some, show (1 : Int32) = nI 1 from rfl, w2, Option.bind_some, si_row B.2.2.1.2.1 (by rw [B.2.2.1.2.2]; omega) (by rw [B.2.2.1.2.2]; omega), Option.bind_some, show nI 1 = (1 : Int32) from rfl, hs]
    have F1 : FI R3 g' (st_i g' 76 (6 - (n + 1)) (nI w)) := FI_st (Or.inl rfl)
    have F2 := FI_tr F F1
    refine ih (by omega) fu _ (by omega) F2 (cv_fi V F1 hd (fun i hi => by rw [F.2.2.2.2.2.1]; exact hd' i hi)) (mb_fi B F1) (fun c hcn => ?_)
    by_cases e : c = 6 - (n + 1)
    · rw [e, sti_s]; exact ⟨w, rfl, w1, w3⟩
    · rw [sti_k e]; exact hc c (by omega)
theorem bg_u (Z : KW K te ow na nt sz) (hd : ¬ R3 co) (hd' : ∀ i, i < 10 → ¬ R3 (hp_r g co i)) : ∀ (n : Nat), n ≤ 2 → ∀ (fu : Nat) (g' : AH), n < fu → FI R3 g g' → CV g' co K → MB g' co → (∀ c, c < 6 → gdM K na 1 c (hp_i g' 76 c)) → (∀ c, c < 2 - n → gdM K na 4 c (hp_i g' 77 c)) → ∃ g2, l_X2_begin_51 fu 75 (nI (2 - n)) g' = b_X2_begin_80 75 g2 ∧ FI R3 g g2 ∧ CV g2 co K ∧ MB g2 co ∧ (∀ c, c < 6 → gdM K na 1 c (hp_i g2 76 c)) ∧ ∀ c, c < 2 → gdM K na 4 c (hp_i g2 77 c) := by
  have a76 : (76 : Nat) ≠ 77 := by decide
  intro n
  induction n with
  | zero =>
    intro _ fu g' hf F V B hw hc
    obtain ⟨fu, rfl⟩ : ∃ f, fu = f + 1 := ⟨fu - 1, by omega⟩
    refine ⟨g', ?_, F, V, B, hw, fun c h => hc c (by omega)⟩
    show b_X2_begin_51 (l_X2_begin_51 fu) 75 (nI 2) g' = _
    unfold b_X2_begin_51
    rw [if_pos (by decide)]
  | succ n ih =>
    intro hn fu g' hf F V B hw hc
    obtain ⟨fu, rfl⟩ : ∃ f, fu = f + 1 := ⟨fu - 1, by omega⟩
    have hs : nI (2 - (n + 1)) + 1 = nI (2 - n) := by rw [nI_1]; congr 1; omega
    show ∃ g2, b_X2_begin_51 (l_X2_begin_51 fu) 75 (nI (2 - (n + 1))) g' = _ ∧ _
    unfold b_X2_begin_51
    rw [if_neg (show ¬ (2 : Int32) ≤ nI (2 - (n + 1)) from nI_ge (b := 2) (by omega) (by omega))]
    unfold b_X2_begin_57
    obtain ⟨w, w1, w2, w3⟩ := e_on V Z (kd := 4) (th := 2 - (n + 1)) (Or.inr rfl) (by omega)
    rw [show g_r g' 75 2 5 = some (hp_r g' 75 5) from if_pos B.1, B.2.2.2.1.1, Option.bind_some, show g_r g' 75 2 7 = some (hp_r g' 75 7) from if_pos B.1, B.2.1, Option.bind_some, cv_v V, Option.bind_some, show (4 : Int32) = nI 4 from rfl, w2, Option.bind_some, si_row B.2.2.2.1.2.1 (by rw [B.2.2.2.1.2.2]; omega) (by rw [B.2.2.2.1.2.2]; omega), Option.bind_some, hs]
    have F1 : FI R3 g' (st_i g' 77 (2 - (n + 1)) (nI w)) := FI_st (Or.inr (Or.inl rfl))
    have F2 := FI_tr F F1
    refine ih (by omega) fu _ (by omega) F2 (cv_fi V F1 hd (fun i hi => by rw [F.2.2.2.2.2.1]; exact hd' i hi)) (mb_fi B F1) (fun c h => by rw [sti_r a76]; exact hw c h) (fun c hcn => ?_)
    by_cases e : c = 2 - (n + 1)
    · rw [e, sti_s]; exact ⟨w, rfl, w1, w3⟩
    · rw [sti_k e]; exact hc c (by omega)
def gdO (K : Nat → Nat → Int32) (m t : Nat) (x : Int32) : Prop := ∃ w, x = nI w ∧ w < 256 ∧ ∀ n, n < 8 → (w.testBit n = true ↔ n < m ∧ xa_th (KP K) n = t)
theorem bg_o (Z : KW K te ow na nt sz) (hd : ¬ R3 co) (hd' : ∀ i, i < 10 → ¬ R3 (hp_r g co i)) : ∀ (n : Nat), n ≤ na → ∀ (fu : Nat) (g' : AH), n < fu → FI R3 g g' → CV g' co K → MB g' co → (∀ c, c < 6 → gdM K na 1 c (hp_i g' 76 c)) → (∀ c, c < 2 → gdM K na 4 c (hp_i g' 77 c)) → (∀ t, t < 4 → gdO K (na - n) t (hp_i g' 78 t)) → ∃ g2, l_X2_begin_91 fu 75 (nI (na - n)) g' = b_X2_begin_140 75 g2 ∧ FI R3 g g2 ∧ CV g2 co K ∧ MB g2 co ∧ (∀ c, c < 6 → gdM K na 1 c (hp_i g2 76 c)) ∧ (∀ c, c < 2 → gdM K na 4 c (hp_i g2 77 c)) ∧ ∀ t, t < 4 → gdO K na t (hp_i g2 78 t) := by
  have hna := Z.1
  have hnt := Z.2.1
  have hsz := Z.2.2.1
  have a76 : (76 : Nat) ≠ 78 := by decide
  have a77 : (77 : Nat) ≠ 78 := by decide
  intro n
  induction n with
  | zero =>
    intro _ fu g' hf F V B hw hu hc
    obtain ⟨fu, rfl⟩ : ∃ f, fu = f + 1 := ⟨fu - 1, by omega⟩
    refine ⟨g', ?_, F, V, B, hw, hu, hc⟩
    show b_X2_begin_91 (l_X2_begin_91 fu) 75 (nI (na - 0)) g' = _
    unfold b_X2_begin_91
    rw [show g_r g' 75 2 7 = some (hp_r g' 75 7) from if_pos B.1, B.2.1, Option.bind_some, cv_i V, Option.bind_some, Z.2.2.2.1, if_pos (nI_le (by omega) (by omega))]
  | succ n ih =>
    intro hn fu g' hf F V B hw hu hc
    obtain ⟨fu, rfl⟩ : ∃ f, fu = f + 1 := ⟨fu - 1, by omega⟩
    have hs : nI (na - (n + 1)) + 1 = nI (na - n) := by rw [nI_1]; congr 1; omega
    have hi : na - (n + 1) < na := by omega
    obtain ⟨e, op, c1, c2, c3, c4, c5, c6, c7, c8, c9, c10⟩ := kp_act Z hi
    show ∃ g2, b_X2_begin_91 (l_X2_begin_91 fu) 75 (nI (na - (n + 1))) g' = _ ∧ _
    unfold b_X2_begin_91
    rw [show g_r g' 75 2 7 = some (hp_r g' 75 7) from if_pos B.1, B.2.1, Option.bind_some, cv_i V, Option.bind_some, Z.2.2.2.1, if_neg (nI_ge (by omega) (by omega))]
    unfold b_X2_begin_103
    rw [if_neg (show ¬ (8 : Int32) ≤ nI (na - (n + 1)) from nI_ge (b := 8) (by omega) (by omega))]
    unfold b_X2_begin_110
    obtain ⟨w, w1, w2, w3⟩ := hc (te e) (by omega)
    have hix : nI (te e) &&& 3 = nI (te e) := by rw [pk_andN (by omega) 2 (by decide), Nat.mod_eq_of_lt (by omega)]
    have hp := pw_256 (show na - (n + 1) < 8 by omega)
    rw [show g_r g' 75 2 6 = some (hp_r g' 75 6) from if_pos B.1, B.2.2.2.2.1, Option.bind_some, show g_r g' 75 2 7 = some (hp_r g' 75 7) from if_pos B.1, B.2.1, Option.bind_some, cv_r V, Option.bind_some, cv_l V (by omega) (show m_in (nI (na - (n + 1))) (m_len 9) from m_in_nI (show na - (n + 1) < 8 by omega) (by decide)), Option.bind_some, ix_nI (by omega), c7, hix, li_row B.2.2.2.2.2.1 (by rw [B.2.2.2.2.2.2]; omega) (by rw [B.2.2.2.2.2.2]; omega), Option.bind_some, w1, nI_one (by omega), nI_or (by omega) (by omega), si_row B.2.2.2.2.2.1 (by rw [B.2.2.2.2.2.2]; omega) (by rw [B.2.2.2.2.2.2]; omega), Option.bind_some, hs]
    have F1 : FI R3 g' (st_i g' 78 (te e) (nI (w ||| 2 ^ (na - (n + 1))))) := FI_st (Or.inr (Or.inr rfl))
    have F2 := FI_tr F F1
    refine ih (by omega) fu _ (by omega) F2 (cv_fi V F1 hd (fun i hi => by rw [F.2.2.2.2.2.1]; exact hd' i hi)) (mb_fi B F1) (fun c h => by rw [sti_r a76]; exact hw c h) (fun c h => by rw [sti_r a77]; exact hu c h) (fun t ht => ?_)
    by_cases et : t = te e
    · rw [et, sti_s]
      refine ⟨_, rfl, or_256 w2 hp, fun m hm => ?_⟩
      rw [tb_or, tb_pw, w3 m hm]
      constructor
      · rintro (⟨h1, h2⟩ | h)
        · exact ⟨by omega, h2⟩
        · subst h; exact ⟨by omega, c8⟩
      · rintro ⟨h1, h2⟩
        by_cases em : na - (n + 1) = m
        · exact Or.inr em
        · exact Or.inl ⟨by omega, h2⟩
    · rw [sti_k et]
      obtain ⟨w', x1, x2, x3⟩ := hc t ht
      refine ⟨w', x1, x2, fun m hm => ?_⟩
      rw [x3 m hm]
      constructor
      · rintro ⟨h1, h2⟩; exact ⟨by omega, h2⟩
      · rintro ⟨h1, h2⟩
        refine ⟨?_, h2⟩
        apply Classical.byContradiction
        intro hh
        have : m = na - (n + 1) := by omega
        subst this
        exact et (h2.symm.trans c8)
theorem bg_t (M : MR g K co) (Z : KW K te ow na nt sz) : ∀ (n : Nat), n ≤ nt → ∀ (fu : Nat) (T : Int64), n < fu → l_X2_begin_150 fu 75 (nI (nt - n)) (sT g T 0 0) = some (sT g (m_bg K n (nt - n) T) 0 0) := by
  have hnt := Z.2.1
  intro n
  induction n with
  | zero =>
    intro _ fu T hf
    obtain ⟨fu, rfl⟩ : ∃ f, fu = f + 1 := ⟨fu - 1, by omega⟩
    show b_X2_begin_150 (l_X2_begin_150 fu) 75 (nI (nt - 0)) _ = _
    unfold b_X2_begin_150
    rw [mg_r7 M, Option.bind_some, mg_ci M, Option.bind_some, Z.2.2.2.2.1, if_pos (nI_le (by omega) (by omega))]
    rfl
  | succ n ih =>
    intro hn fu T hf
    obtain ⟨fu, rfl⟩ : ∃ f, fu = f + 1 := ⟨fu - 1, by omega⟩
    have hs : nI (nt - (n + 1)) + 1 = nI (nt - n) := by rw [nI_1]; congr 1; omega
    have hs' : nt - (n + 1) + 1 = nt - n := by omega
    show b_X2_begin_150 (l_X2_begin_150 fu) 75 (nI (nt - (n + 1))) _ = _
    unfold b_X2_begin_150
    rw [mg_r7 M, Option.bind_some, mg_ci M, Option.bind_some, Z.2.2.2.2.1, if_neg (nI_ge (by omega) (by omega))]
    unfold b_X2_begin_162
    rw [if_neg (show ¬ (4 : Int32) ≤ nI (nt - (n + 1)) from nI_ge (b := 4) (by omega) (by omega))]
    unfold b_X2_begin_168
    rw [mg_r7 M, Option.bind_some, mg_co M, Option.bind_some, ml7 M (m_in_nI (show nt - (n + 1) < 4 by omega) (by decide)), Option.bind_some, mg_v M, Option.bind_some, e_go M, Option.bind_some, hs, ix_nI (by omega), ih (by omega) fu _ (by omega)]
    show _ = some (sT g (m_bg K n (nt - (n + 1) + 1) (m_go K (nI (nt - (n + 1))) 64 T (K 7 (nt - (n + 1)) &&& 63))) 0 0)
    rw [hs']
end
/-- the rows that a search works with -/
def KX (K0 : Nat → Nat → Int32) (g : AH) (o v : Int32) (i : Nat) : Nat → Int32 := if i = 11 then hp_i g 76 else if i = 12 then hp_i g 77 else if i = 13 then hp_i g 78 else if i = 14 then (fun k => if k = 0 then o else v) else K0 i
theorem kp_cg {K K0 : Nat → Nat → Int32} (h : ∀ i, i ≤ 10 → K i = K0 i) : KP K = KP K0 := by
  have k0 := h 0 (by omega); have k1 := h 1 (by omega); have k2 := h 2 (by omega); have k3 := h 3 (by omega); have k4 := h 4 (by omega); have k5 := h 5 (by omega); have k6 := h 6 (by omega); have k7 := h 7 (by omega); have k8 := h 8 (by omega); have k9 := h 9 (by omega); have k10 := h 10 (by omega)
  have su : ∀ lm e, w_su K lm e = w_su K0 lm e := fun lm e => by unfold w_su; rw [k2, k3]
  have go : ∀ n lm e, w_go K n lm e = w_go K0 n lm e := by
    intro n
    induction n with
    | zero => intro lm e; rfl
    | succ n ih =>
      intro lm e
      unfold w_go
      rw [k0, k6]
      have e1 : w_lm K lm e = w_lm K0 lm e := by unfold w_lm; rw [k0, k1, su]
      have e2 : w_nx K lm e = w_nx K0 lm e := by unfold w_nx; rw [k0, k5, k1, k3]
      rw [e1, e2, ih]
  unfold KP
  rw [k10, k9, k8, k7]
  congr 1
  congr 1
  congr 1
  · funext n k
    by_cases c0 : k = 0
    · rw [if_pos c0, if_pos c0]
    · rw [if_neg c0, if_neg c0]
      by_cases c1 : k = 1
      · rw [if_pos c1, k0]
      · rw [if_neg c1]
        by_cases c2 : k = 2
        · rw [if_pos c2, k4]
        · rw [if_neg c2]
          by_cases c3 : k = 3
          · rw [if_pos c3, k1]
          · rw [if_neg c3, k2]
  · congr 1
    · funext n lm; exact go _ _ _
    · congr 1
      · funext t; exact go _ _ _
      · congr 1
        funext n lm; exact su _ _
theorem kw_cg {K K0 : Nat → Nat → Int32} {te ow : Nat → Nat} {na nt sz : Nat} (h : ∀ i, i ≤ 10 → K i = K0 i) (Z : KW K0 te ow na nt sz) : KW K te ow na nt sz := by
  have k0 := h 0 (by omega); have k1 := h 1 (by omega); have k2 := h 2 (by omega); have k3 := h 3 (by omega); have k4 := h 4 (by omega); have k5 := h 5 (by omega); have k6 := h 6 (by omega); have k7 := h 7 (by omega); have k8 := h 8 (by omega); have k9 := h 9 (by omega); have k10 := h 10 (by omega)
  unfold KW kw_e at Z ⊢
  rw [k0, k1, k2, k3, k4, k5, k6, k7, k8, k9, k10]
  exact Z
