/-! ===== the class's machine, part 2 (written by gen/mkmach2.py) ===== -/
section
variable {h : AH} {K : Nat → Nat → Int32} {co : Nat} {T C E : Int64}
theorem e_al (M : MR h K co) (lk : Int32) : ∀ (n : Nat), n ≤ 8 → ∀ (fu : Nat) (x : Int32), n < fu → l_X2_aheadOf_159 fu 75 lk x (nI (8 - n)) (sT h T C E) = some (m_al E lk n (8 - n) x, sT h T C E) := by
  intro n
  induction n with
  | zero =>
    intro _ fu x hf
    obtain ⟨fu, rfl⟩ : ∃ f, fu = f + 1 := ⟨fu - 1, by omega⟩
    simp only [l_X2_aheadOf_159, b_X2_aheadOf_159]
    rw [if_pos (by decide)]
    rfl
  | succ n ih =>
    intro hn fu x hf
    obtain ⟨fu, rfl⟩ : ∃ f, fu = f + 1 := ⟨fu - 1, by omega⟩
    have hs : nI (8 - (n + 1)) + 1 = nI (8 - n) := by rw [nI_1]; congr 1; omega
    have hs' : 8 - (n + 1) + 1 = 8 - n := by omega
    have hlt : ¬ (8 : Int32) ≤ nI (8 - (n + 1)) := nI_ge (b := 8) (by omega) (by decide)
    simp only [l_X2_aheadOf_159, b_X2_aheadOf_159]
    rw [if_neg hlt]
    simp only [b_X2_aheadOf_166, b_X2_aheadOf_176, b_X2_aheadOf_187, mg_v M, e_ea M, Option.bind_some, hs]
    unfold m_al
    rw [hs']
    split
    · exact ih (by omega) fu x (by omega)
    · exact ih (by omega) fu _ (by omega)
theorem e_ah (M : MR h K co) (t a s : Int32) : f_X2_aheadOf 75 t a s (sT h T C E) = some (m_ah K T E t a s, sT h T C E) := by
  have hl : ∀ lk : Int32, l_X2_aheadOf_159 fu_ 75 lk lk 0 (sT h T C E) = some (m_al E lk 8 0 lk, sT h T C E) := fun lk => e_al M lk 8 (by omega) fu_ lk (by decide)
  simp only [f_X2_aheadOf, b_X2_aheadOf_0, b_X2_aheadOf_49, b_X2_aheadOf_71, b_X2_aheadOf_76, b_X2_aheadOf_85, b_X2_aheadOf_91, b_X2_aheadOf_102, b_X2_aheadOf_108, b_X2_aheadOf_119, b_X2_aheadOf_138, b_X2_aheadOf_152, mg_r7 M, mg_r4 M, mg_r5 M, mg_r6 M, mg_co M, mg_ci M, mg_i3 M, mg_i8 M, mg_v M, mg_vc M, mg_j0 M, mg_j1 M, mg_j2 M, mp_j0 M, mp_j1 M, mp_j2 M, ml0 M, ml1 M, ml2 M, ml3 M, ml4 M, ml5 M, ml6 M, ml7 M, ml8 M, ml9 M, ml_w M, ml_u M, ml_o M, m_in_63, m_in_7, m_in_3, m_in_1, Option.bind_some, ok_z_0, ok_z_1, e_nx M, e_va M, e_ho M, e_do M, e_qu M, e_ce M, e_ea M, e_vo M, e_pu M, e_wb M, e_hq M, e_su M, e_sl M, e_pc M, e_go M, hl]
  unfold m_ah m_lk
  by_cases h3 : K 0 (ix (a &&& 63)) = 3
  · simp only [if_pos h3]
  · simp only [if_neg h3]
    by_cases h0 : K 0 (ix (a &&& 63)) = 0
    · have h2 : ¬ K 0 (ix (a &&& 63)) = 2 := by rw [h0]; decide
      simp only [if_pos h0, if_neg h2]
      split
      · rfl
      · split <;> rfl
    · simp only [if_neg h0]
      split
      · split
        · rfl
        · split <;> rfl
      · rfl
theorem e_ip (M : MR h K co) (s : Int32) : f_X2_isPublished 75 s (sT h T C E) = some (m_ip K s, sT h T C E) := by
  simp only [f_X2_isPublished, b_X2_isPublished_0, b_X2_isPublished_8, b_X2_isPublished_14, b_X2_isPublished_25, b_X2_isPublished_36, b_X2_isPublished_58, b_X2_isPublished_62, b_X2_isPublished_63, mg_r7 M, mg_r4 M, mg_r5 M, mg_r6 M, mg_co M, mg_ci M, mg_i3 M, mg_i8 M, mg_v M, mg_vc M, mg_j0 M, mg_j1 M, mg_j2 M, mp_j0 M, mp_j1 M, mp_j2 M, ml0 M, ml1 M, ml2 M, ml3 M, ml4 M, ml5 M, ml6 M, ml7 M, ml8 M, ml9 M, ml_w M, ml_u M, ml_o M, m_in_63, m_in_7, m_in_3, m_in_1, Option.bind_some, ok_z_0, ok_z_1]
  unfold m_ip
  by_cases h1 : K 14 0 = 2
  · by_cases h2 : (8 : Int32) ≤ s
    · simp only [if_pos h1, if_pos h2]; rw [if_neg (fun e => e.2.1 h2)]
    · by_cases h3 : K 10 17 = -1
      · simp only [if_pos h1, if_neg h2, if_pos h3]; rw [if_neg (fun e => e.2.2.1 h3)]
      · by_cases h4 : s ≤ K 10 17
        · simp only [if_pos h1, if_neg h2, if_neg h3, if_pos h4]; rw [if_neg (fun e => e.2.2.2.1 h4)]
        · by_cases h5 : K 9 (ix (s &&& 7)) = K 10 16
          · simp only [if_pos h1, if_neg h2, if_neg h3, if_neg h4, if_pos h5]; rw [if_pos ⟨h1, h2, h3, h4, h5⟩]
          · simp only [if_pos h1, if_neg h2, if_neg h3, if_neg h4, if_neg h5]; rw [if_neg (fun e => h5 e.2.2.2.2)]
  · simp only [if_neg h1]; rw [if_neg (fun e => h1 e.1)]
theorem e_sq (M : MR h K co) (c q : Int32) : ∀ (n : Nat), n ≤ 8 → ∀ (fu : Nat), n < fu → l_X2_seenValue_35 fu 75 c q (nI n - 1) (sT h T C E) = some (m_sq C c q n, sT h T C E) := by
  intro n
  induction n with
  | zero =>
    intro _ fu hf
    obtain ⟨fu, rfl⟩ : ∃ f, fu = f + 1 := ⟨fu - 1, by omega⟩
    simp only [l_X2_seenValue_35, b_X2_seenValue_35]
    rw [if_pos (by decide)]
    simp only [b_X2_seenValue_63, mg_v M, e_ce M, Option.bind_some]
    rfl
  | succ n ih =>
    intro hn fu hf
    obtain ⟨fu, rfl⟩ : ∃ f, fu = f + 1 := ⟨fu - 1, by omega⟩
    rw [nI_pred]
    simp only [l_X2_seenValue_35, b_X2_seenValue_35]
    rw [if_neg (nI_pos (by omega))]
    simp only [b_X2_seenValue_40, b_X2_seenValue_50, b_X2_seenValue_57, mg_v M, e_wb M, Option.bind_some]
    unfold m_sq
    split
    · have : nI n + -1 = nI n - 1 := by rw [Int32.sub_eq_add_neg]
      rw [this]
      exact ih (by omega) fu (by omega)
    · rfl
theorem e_sv (M : MR h K co) (t c s : Int32) : f_X2_seenValue 75 t c s (sT h T C E) = some (m_sv K T C t c s, sT h T C E) := by
  have hl : ∀ q : Int32, l_X2_seenValue_35 fu_ 75 c q 7 (sT h T C E) = some (m_sq C c q 8, sT h T C E) := fun q => e_sq M c q 8 (by omega) fu_ (by decide)
  simp only [f_X2_seenValue, b_X2_seenValue_0, b_X2_seenValue_8, b_X2_seenValue_14, mg_r7 M, mg_r4 M, mg_r5 M, mg_r6 M, mg_co M, mg_ci M, mg_i3 M, mg_i8 M, mg_v M, mg_vc M, mg_j0 M, mg_j1 M, mg_j2 M, mp_j0 M, mp_j1 M, mp_j2 M, ml0 M, ml1 M, ml2 M, ml3 M, ml4 M, ml5 M, ml6 M, ml7 M, ml8 M, ml9 M, ml_w M, ml_u M, ml_o M, m_in_63, m_in_7, m_in_3, m_in_1, Option.bind_some, ok_z_0, ok_z_1, e_nx M, e_va M, e_ho M, e_do M, e_qu M, e_ce M, e_ea M, e_vo M, e_pu M, e_wb M, e_hq M, e_su M, e_sl M, e_pc M, e_go M, hl]
  unfold m_sv
  split <;> rfl
theorem e_wr (M : MR h K co) (n c v : Int32) : f_X2_write 75 n c v (sT h T C E) = some (sT h (m_wT K T n) (m_wC K C n c v) E) := by
  simp only [f_X2_write, b_X2_write_0, b_X2_write_7, b_X2_write_14, b_X2_write_40, b_X2_write_58, b_X2_write_66, b_X2_write_74, b_X2_write_82, mg_r7 M, mg_r4 M, mg_r5 M, mg_r6 M, mg_co M, mg_ci M, mg_i3 M, mg_i8 M, mg_v M, mg_vc M, mg_j0 M, mg_j1 M, mg_j2 M, mp_j0 M, mp_j1 M, mp_j2 M, ml0 M, ml1 M, ml2 M, ml3 M, ml4 M, ml5 M, ml6 M, ml7 M, ml8 M, ml9 M, ml_w M, ml_u M, ml_o M, m_in_63, m_in_7, m_in_3, m_in_1, Option.bind_some, ok_z_0, ok_z_1, e_nx M, e_va M, e_ho M, e_do M, e_qu M, e_ce M, e_ea M, e_vo M, e_pu M, e_wb M, e_hq M, e_su M, e_sl M, e_pc M, e_go M]
  unfold m_wT m_wC
  by_cases h0 : K 14 0 = 0
  · have h1 : ¬ K 14 0 = 1 := by rw [h0]; decide
    simp only [if_pos h0, if_neg h1]
  · by_cases h1 : K 14 0 = 1
    · simp only [if_neg h0, if_pos h1]; rfl
    · by_cases h3 : K 14 0 = 3
      · simp only [if_neg h0, if_neg h1, if_pos h3]; rw [if_pos (Or.inl h3)]; rfl
      · simp only [if_neg h0, if_neg h1, if_neg h3]
        by_cases h4 : m_vo K c = 0
        · rw [if_pos h4, if_neg (fun e => e.elim h3 (fun e => e h4))]; rfl
        · rw [if_neg h4, if_pos (Or.inr h4)]; rfl
theorem e_ac (M : MR h K co) (t s : Int32) : f_X2_act 75 t s (sT h T C E) = some (sT h (m_aT K T C t s) (m_aC K T C t) (m_aE K T E t s)) := by
  have key : ∀ E' : Int64, b_X2_act_54 75 t s (m_an T t) (m_at K T t) (sT h T C E') = some (sT h (m_aT K T C t s) (m_aC K T C t) E') := by
    intro E'
    have hat : m_in (m_at K T t) 64 := m_in_63 _
    simp only [b_X2_act_54, b_X2_act_100, b_X2_act_138, b_X2_act_172, b_X2_act_196, b_X2_act_228, b_X2_act_263, hat, mg_r7 M, mg_r4 M, mg_r5 M, mg_r6 M, mg_co M, mg_ci M, mg_i3 M, mg_i8 M, mg_v M, mg_vc M, mg_j0 M, mg_j1 M, mg_j2 M, mp_j0 M, mp_j1 M, mp_j2 M, ml0 M, ml1 M, ml2 M, ml3 M, ml4 M, ml5 M, ml6 M, ml7 M, ml8 M, ml9 M, ml_w M, ml_u M, ml_o M, m_in_63, m_in_7, m_in_3, m_in_1, Option.bind_some, ok_z_0, ok_z_1, e_nx M, e_va M, e_ho M, e_do M, e_qu M, e_ce M, e_ea M, e_vo M, e_pu M, e_wb M, e_hq M, e_su M, e_sl M, e_pc M, e_go M, e_ah M, e_ip M, e_sv M, e_wr M]
    unfold m_aT m_aC m_a1
    rw [show K 0 (ix (m_at K T t)) = m_op K T t from rfl]
    by_cases h0 : m_op K T t = 0
    · have h1 : ¬ m_op K T t = 1 := by rw [h0]; decide
      simp only [if_pos h0, if_neg h1]; rfl
    · by_cases h1 : m_op K T t = 1
      · simp only [if_neg h0, if_pos h1]; rfl
      · by_cases h2 : m_op K T t = 2
        · simp only [if_neg h0, if_neg h1, if_pos h2]; rfl
        · by_cases h3 : m_op K T t = 3
          · simp only [if_neg h0, if_neg h1, if_neg h2, if_pos h3]; rfl
          · by_cases h4 : m_op K T t = 4
            · simp only [if_neg h0, if_neg h1, if_neg h2, if_neg h3, if_pos h4]; rfl
            · simp only [if_neg h0, if_neg h1, if_neg h2, if_neg h3, if_neg h4]; rfl
  simp only [f_X2_act, b_X2_act_0, b_X2_act_31, mg_r7 M, mg_r4 M, mg_r5 M, mg_r6 M, mg_co M, mg_ci M, mg_i3 M, mg_i8 M, mg_v M, mg_vc M, mg_j0 M, mg_j1 M, mg_j2 M, mp_j0 M, mp_j1 M, mp_j2 M, ml0 M, ml1 M, ml2 M, ml3 M, ml4 M, ml5 M, ml6 M, ml7 M, ml8 M, ml9 M, ml_w M, ml_u M, ml_o M, m_in_63, m_in_7, m_in_3, m_in_1, Option.bind_some, ok_z_0, ok_z_1, e_nx M, e_va M, e_ho M, e_do M, e_qu M, e_ce M, e_ea M, e_vo M, e_pu M, e_wb M, e_hq M, e_su M, e_sl M, e_pc M, e_go M, e_ah M, e_ip M, e_sv M, e_wr M]
  unfold m_aE
  by_cases ho : K 14 0 < 2
  · rw [if_pos ho, if_pos ho]; exact key E
  · rw [if_neg ho, if_neg ho]; exact key _
theorem e_can (M : MR h K co) (t : Int32) : f_X2_canAct 75 t (sT h T C E) = some (m_can K T t, sT h T C E) := by
  simp only [f_X2_canAct, b_X2_canAct_0, b_X2_canAct_17, b_X2_canAct_19, b_X2_canAct_80, b_X2_canAct_96, b_X2_canAct_104, b_X2_canAct_108, b_X2_canAct_109, b_X2_canAct_110, b_X2_canAct_126, b_X2_canAct_130, b_X2_canAct_131, b_X2_canAct_132, b_X2_canAct_148, b_X2_canAct_156, b_X2_canAct_160, b_X2_canAct_161, b_X2_canAct_162, b_X2_canAct_170, b_X2_canAct_174, b_X2_canAct_175, b_X2_canAct_176, mg_r7 M, mg_r4 M, mg_r5 M, mg_r6 M, mg_co M, mg_ci M, mg_i3 M, mg_i8 M, mg_v M, mg_vc M, mg_j0 M, mg_j1 M, mg_j2 M, mp_j0 M, mp_j1 M, mp_j2 M, ml0 M, ml1 M, ml2 M, ml3 M, ml4 M, ml5 M, ml6 M, ml7 M, ml8 M, ml9 M, ml_w M, ml_u M, ml_o M, m_in_63, m_in_7, m_in_3, m_in_1, Option.bind_some, ok_z_0, ok_z_1, e_nx M, e_va M, e_ho M, e_do M, e_qu M, e_ce M, e_ea M, e_vo M, e_pu M, e_wb M, e_hq M, e_su M, e_sl M, e_pc M, e_go M]
  unfold m_can m_op m_at m_an
  split
  · split
    · split
      · rfl
      · split <;> rfl
    · split
      · rfl
      · split
        · split <;> rfl
        · split
          · split
            · split <;> rfl
            · rfl
          · split
            · split <;> rfl
            · rfl
  · rfl
theorem e_hu (M : MR h K co) (t : Int32) : f_X2_mayHurry 75 t (sT h T C E) = some (m_hu K T t, sT h T C E) := by
  simp only [f_X2_mayHurry, b_X2_mayHurry_0, b_X2_mayHurry_17, b_X2_mayHurry_19, b_X2_mayHurry_48, b_X2_mayHurry_56, b_X2_mayHurry_64, b_X2_mayHurry_80, b_X2_mayHurry_84, b_X2_mayHurry_85, b_X2_mayHurry_86, b_X2_mayHurry_99, b_X2_mayHurry_103, b_X2_mayHurry_104, mg_r7 M, mg_r4 M, mg_r5 M, mg_r6 M, mg_co M, mg_ci M, mg_i3 M, mg_i8 M, mg_v M, mg_vc M, mg_j0 M, mg_j1 M, mg_j2 M, mp_j0 M, mp_j1 M, mp_j2 M, ml0 M, ml1 M, ml2 M, ml3 M, ml4 M, ml5 M, ml6 M, ml7 M, ml8 M, ml9 M, ml_w M, ml_u M, ml_o M, m_in_63, m_in_7, m_in_3, m_in_1, Option.bind_some, ok_z_0, ok_z_1, e_nx M, e_va M, e_ho M, e_do M, e_qu M, e_ce M, e_ea M, e_vo M, e_pu M, e_wb M, e_hq M, e_su M, e_sl M, e_pc M, e_go M]
  unfold m_hu m_op m_at m_an
  split
  · split
    · split
      · rfl
      · split
        · split <;> rfl
        · rfl
    · split <;> rfl
  · rfl
theorem e_shl (M : MR h K co) (a b : Int32) : ∀ (n : Nat), n ≤ 8 → ∀ (fu : Nat) (x : Int32), n < fu → l_X2_sights_137 fu 75 a b x (nI (8 - n)) (sT h T C E) = some ((a ||| 256) &&& ((m_sh E (a &&& b) n (8 - n) x) ^^^ (-1 : Int32)), sT h T C E) := by
  intro n
  induction n with
  | zero =>
    intro _ fu x hf
    obtain ⟨fu, rfl⟩ : ∃ f, fu = f + 1 := ⟨fu - 1, by omega⟩
    simp only [l_X2_sights_137, b_X2_sights_137]
    rw [if_pos (by decide)]
    rfl
  | succ n ih =>
    intro hn fu x hf
    obtain ⟨fu, rfl⟩ : ∃ f, fu = f + 1 := ⟨fu - 1, by omega⟩
    have hs : nI (8 - (n + 1)) + 1 = nI (8 - n) := by rw [nI_1]; congr 1; omega
    have hs' : 8 - (n + 1) + 1 = 8 - n := by omega
    have hlt : ¬ (8 : Int32) ≤ nI (8 - (n + 1)) := nI_ge (b := 8) (by omega) (by decide)
    simp only [l_X2_sights_137, b_X2_sights_137]
    rw [if_neg hlt]
    simp only [b_X2_sights_144, b_X2_sights_157, b_X2_sights_172, mg_v M, e_ea M, Option.bind_some, hs]
    unfold m_sh
    rw [hs']
    split
    · exact ih (by omega) fu x (by omega)
    · exact ih (by omega) fu _ (by omega)
theorem e_si (M : MR h K co) (t : Int32) : f_X2_sights 75 t (sT h T C E) = some (m_si K T C E t, sT h T C E) := by
  have hl : ∀ a b : Int32, l_X2_sights_137 fu_ 75 a b 0 0 (sT h T C E) = some ((a ||| 256) &&& ((m_sh E (a &&& b) 8 0 0) ^^^ (-1 : Int32)), sT h T C E) := fun a b => e_shl M a b 8 (by omega) fu_ 0 (by decide)
  simp only [f_X2_sights, b_X2_sights_0, b_X2_sights_38, b_X2_sights_42, b_X2_sights_47, b_X2_sights_51, b_X2_sights_70, b_X2_sights_79, b_X2_sights_93, b_X2_sights_98, b_X2_sights_102, b_X2_sights_104, mg_r7 M, mg_r4 M, mg_r5 M, mg_r6 M, mg_co M, mg_ci M, mg_i3 M, mg_i8 M, mg_v M, mg_vc M, mg_j0 M, mg_j1 M, mg_j2 M, mp_j0 M, mp_j1 M, mp_j2 M, ml0 M, ml1 M, ml2 M, ml3 M, ml4 M, ml5 M, ml6 M, ml7 M, ml8 M, ml9 M, ml_w M, ml_u M, ml_o M, m_in_63, m_in_7, m_in_3, m_in_1, Option.bind_some, ok_z_0, ok_z_1, e_nx M, e_va M, e_ho M, e_do M, e_qu M, e_ce M, e_ea M, e_vo M, e_pu M, e_wb M, e_hq M, e_su M, e_sl M, e_pc M, e_go M, e_ah M, e_ip M, e_sv M, e_wr M, hl]
  unfold m_si m_op m_at m_an
  by_cases ho : K 14 0 < 2
  · simp only [if_pos ho]
  · simp only [if_neg ho]
    by_cases h0 : K 0 (ix (K 8 (ix (m_nx T t &&& 7)) &&& 63)) = 0
    · rw [if_pos h0, if_pos (Or.inl h0)]
      by_cases h3 : K 14 0 = 3
      · rw [if_pos h3, if_pos (Or.inl h3)]
        split <;> rfl
      · rw [if_neg h3]
        by_cases h4 : m_vo K (K 4 (ix (K 8 (ix (m_nx T t &&& 7)) &&& 63))) = 0
        · rw [if_pos h4, if_neg (fun e => e.elim h3 (fun e => e h4))]
        · rw [if_neg h4, if_pos (Or.inr h4)]
          split <;> rfl
    · rw [if_neg h0]
      by_cases h2 : K 0 (ix (K 8 (ix (m_nx T t &&& 7)) &&& 63)) = 2
      · rw [if_pos h2, if_pos (Or.inr h2)]
        by_cases h3 : K 14 0 = 3
        · rw [if_pos h3, if_pos (Or.inl h3)]
          split <;> rfl
        · rw [if_neg h3]
          by_cases h4 : m_vo K (K 4 (ix (K 8 (ix (m_nx T t &&& 7)) &&& 63))) = 0
          · rw [if_pos h4, if_neg (fun e => e.elim h3 (fun e => e h4))]
          · rw [if_neg h4, if_pos (Or.inr h4)]
            split <;> rfl
      · rw [if_neg h2, if_neg (fun e => e.elim h0 h2)]
theorem e_eql (M : MR h K co) (q : Int32) : ∀ (n : Nat), n ≤ 8 → ∀ (fu : Nat), n < fu → l_X2_emptyFirst_8 fu 75 q (nI (8 - n)) (sT h T C E) = some (sT h (m_eT T (m_eq q n (8 - n))) (m_eC K C (m_eq q n (8 - n))) E) := by
  intro n
  induction n with
  | zero =>
    intro _ fu hf
    obtain ⟨fu, rfl⟩ : ∃ f, fu = f + 1 := ⟨fu - 1, by omega⟩
    simp only [l_X2_emptyFirst_8, b_X2_emptyFirst_8]
    rw [if_pos (by decide)]
    rfl
  | succ n ih =>
    intro hn fu hf
    obtain ⟨fu, rfl⟩ : ∃ f, fu = f + 1 := ⟨fu - 1, by omega⟩
    have hs : nI (8 - (n + 1)) + 1 = nI (8 - n) := by rw [nI_1]; congr 1; omega
    have hs' : 8 - (n + 1) + 1 = 8 - n := by omega
    have hlt : ¬ (8 : Int32) ≤ nI (8 - (n + 1)) := nI_ge (b := 8) (by omega) (by decide)
    have hin : m_in (nI (8 - (n + 1))) 8 := m_in_nI (by omega) (by omega)
    have hix : ix (nI (8 - (n + 1))) = 8 - (n + 1) := nI_clamp (by omega)
    simp only [l_X2_emptyFirst_8, b_X2_emptyFirst_8]
    rw [if_neg hlt]
    simp only [b_X2_emptyFirst_14, b_X2_emptyFirst_22, b_X2_emptyFirst_94, hs, hin, mg_r7 M, mg_r4 M, mg_r5 M, mg_r6 M, mg_co M, mg_ci M, mg_i3 M, mg_i8 M, mg_v M, mg_vc M, mg_j0 M, mg_j1 M, mg_j2 M, mp_j0 M, mp_j1 M, mp_j2 M, ml0 M, ml1 M, ml2 M, ml3 M, ml4 M, ml5 M, ml6 M, ml7 M, ml8 M, ml9 M, ml_w M, ml_u M, ml_o M, m_in_63, m_in_7, m_in_3, m_in_1, Option.bind_some, ok_z_0, ok_z_1, e_nx M, e_va M, e_ho M, e_do M, e_qu M, e_ce M, e_ea M, e_vo M, e_pu M, e_wb M, e_hq M, e_su M, e_sl M, e_pc M, e_go M]
    unfold m_eq
    split
    · rw [hs']
      exact ih (by omega) fu (by omega)
    · unfold m_eT m_eC
      rw [if_pos (by omega), if_pos (by omega), hix]
      rfl
theorem e_em (M : MR h K co) (t : Int32) : f_X2_emptyFirst 75 t (sT h T C E) = some (sT h (m_eT T (m_eq (m_qu K T t) 8 0)) (m_eC K C (m_eq (m_qu K T t) 8 0)) E) := by
  have hl : ∀ q : Int32, l_X2_emptyFirst_8 fu_ 75 q 0 (sT h T C E) = some (sT h (m_eT T (m_eq q 8 0)) (m_eC K C (m_eq q 8 0)) E) := fun q => e_eql M q 8 (by omega) fu_ (by decide)
  simp only [f_X2_emptyFirst, b_X2_emptyFirst_0, mg_v M, e_qu M, hl, Option.bind_some]
theorem e_o2 (M : MR h K co) (nt : Nat) (hnt : K 10 11 = nI nt) (hn4 : nt ≤ 4) : ∀ (n : Nat), n ≤ nt → ∀ (fu : Nat) (x : Int32), n < fu → l_X2_outcome_31 fu 75 x (nI (nt - n)) (sT h T C E) = some (m_o2 T n (nt - n) x, sT h T C E) := by
  intro n
  induction n with
  | zero =>
    intro _ fu x hf
    obtain ⟨fu, rfl⟩ : ∃ f, fu = f + 1 := ⟨fu - 1, by omega⟩
    simp only [l_X2_outcome_31, b_X2_outcome_31, mg_r7 M, mg_ci M, hnt, Option.bind_some]
    rw [if_pos (nI_le (by omega) (by omega))]
    rfl
  | succ n ih =>
    intro hn fu x hf
    obtain ⟨fu, rfl⟩ : ∃ f, fu = f + 1 := ⟨fu - 1, by omega⟩
    have hs : nI (nt - (n + 1)) + 1 = nI (nt - n) := by rw [nI_1]; congr 1; omega
    have hs' : nt - (n + 1) + 1 = nt - n := by omega
    simp only [l_X2_outcome_31, b_X2_outcome_31, mg_r7 M, mg_ci M, hnt, Option.bind_some]
    rw [if_neg (nI_ge (by omega) (by omega))]
    simp only [b_X2_outcome_42, b_X2_outcome_52, b_X2_outcome_58, mg_v M, e_nx M, Option.bind_some, hs]
    unfold m_o2
    rw [hs']
    split
    · exact ih (by omega) fu x (by omega)
    · exact ih (by omega) fu _ (by omega)
theorem e_o1 (M : MR h K co) : ∀ (n : Nat), n ≤ 5 → ∀ (fu : Nat) (x : Int32), n < fu → l_X2_outcome_4 fu 75 x (nI (5 - n)) (sT h T C E) = b_X2_outcome_25 75 (m_o1 T n (5 - n) x) (sT h T C E) := by
  intro n
  induction n with
  | zero =>
    intro _ fu x hf
    obtain ⟨fu, rfl⟩ : ∃ f, fu = f + 1 := ⟨fu - 1, by omega⟩
    simp only [l_X2_outcome_4, b_X2_outcome_4]
    rw [if_pos (by decide)]
    rfl
  | succ n ih =>
    intro hn fu x hf
    obtain ⟨fu, rfl⟩ : ∃ f, fu = f + 1 := ⟨fu - 1, by omega⟩
    have hs : nI (5 - (n + 1)) + 1 = nI (5 - n) := by rw [nI_1]; congr 1; omega
    have hs' : 5 - (n + 1) + 1 = 5 - n := by omega
    simp only [l_X2_outcome_4, b_X2_outcome_4]
    rw [if_neg (show ¬ (5 : Int32) ≤ nI (5 - (n + 1)) from nI_ge (b := 5) (by omega) (by decide))]
    simp only [b_X2_outcome_9, mg_v M, e_va M, Option.bind_some, hs]
    unfold m_o1
    rw [hs']
    exact ih (by omega) fu _ (by omega)
theorem e_out (M : MR h K co) (nt : Nat) (hnt : K 10 11 = nI nt) (hn4 : nt ≤ 4) : f_X2_outcome 75 (sT h T C E) = some (m_out K T, sT h T C E) := by
  unfold f_X2_outcome b_X2_outcome_0
  rw [show (0 : Int32) = nI (5 - 5) from rfl, e_o1 M 5 (by omega) fu_ _ (by decide)]
  unfold b_X2_outcome_25 m_out
  have := e_o2 (T := T) (C := C) (E := E) M nt hnt hn4 nt (Nat.le_refl nt) fu_ ((m_o1 T 5 0 0) <<< ((4 : Int32) &&& 31)) (by unfold fu_; omega)
  rw [Nat.sub_self] at this
  rw [show ix (K 10 11) = nt by rw [hnt]; exact nI_clamp (by omega)]
  exact this
theorem e_set {T' C' E' : Int64} (M : MR h K co) : f_X2_set 75 T' C' E' (sT h T C E) = some (sT h T' C' E') := by
  simp only [f_X2_set, b_X2_set_0, mp_j0 M, mp_j1 M, mp_j2 M, Option.bind_some]
end
