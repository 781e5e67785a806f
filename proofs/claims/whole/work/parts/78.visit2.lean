/-! ===== the class's search: threads, hurry, visit ===== -/
section
variable {α : Type} {K : Nat → Nat → Int32} {nt goal co pr : Nat} {G : AH → α → Prop} {Vs : AH → KY → Prop} {fin : α → KY → Nat → (Nat → Int32) → α} {st : α → Bool} {le : α → α → Prop} {Rc : KY → Nat → Prop}
theorem v_as (B : VB K nt goal co pr G Vs fin st le Rc) {rc : Nat → Int64 → Int64 → Int64 → Int32 → AH → Option AH} {f d : Nat} (H : cIH K nt goal G Vs fin st le Rc rc f (d + 1)) {x : KY} {t : Nat} {p : Nat → Int32} (hx : Rc x d) (ht : t < nt) {h : AH} {a : α} (g : G h a) (v : cVI K nt goal Vs fin st le Rc h a (d + 1)) (ag : cAG p h d) :
    ∃ b h', f_X8_doActions rc 74 x.1 x.2.1 x.2.2 (nI t) (nI d) h = some (b, h') ∧ (b = 0 ↔ m_can K x.1 (nI t) = 0) ∧ G h' (cFo K nt goal fin st f d p (ky_as K x t) a) ∧ cNV K nt goal Vs fin st le Rc h h' (cFo K nt goal fin st f d p (ky_as K x t) a) (d + 1) ∧ cAG p h' d := by
  have B' := B
  obtain ⟨B1, B2, B3, B4, B5, O, B7, B8, B9, B10, B11, B12, B13, B14⟩ := B
  obtain ⟨M, F, -⟩ := B1 h a g
  have F1 : SF (sT h x.1 x.2.1 x.2.2) pr co goal := F
  obtain ⟨g1, w1⟩ := B2 h a x.1 x.2.1 x.2.2 g
  have hd := B7 x d hx
  by_cases hc : m_can K x.1 (nI t) = 0
  · refine ⟨0, sT h x.1 x.2.1 x.2.2, ?_, ⟨fun _ => hc, fun _ => rfl⟩, ?_, ?_, ag⟩
    · unfold f_X8_doActions b_X8_doActions_0
      rw [sf_r0 F, Option.bind_some, mr_v M, Option.bind_some, e_set0 M, Option.bind_some, sf_r0 F1, Option.bind_some, mg_v M, Option.bind_some, e_can M, Option.bind_some, if_pos hc]
      exact ok_z_0
    · unfold ky_as; rw [if_pos hc]; exact g1
    · exact cNV_eq (fun y hy => (w1 y).mp hy)
  · have hl : ky_as K x t = ky_al K x t (m_si K x.1 x.2.1 x.2.2 (nI t)) 9 0 := by unfold ky_as; rw [if_neg hc]
    rw [hl]
    obtain ⟨h', r1, r2, r3, r4⟩ := v_acl (si := m_si K x.1 x.2.1 x.2.2 (nI t)) (p := p) B' H hd ht 9 (Nat.le_refl 9) (fun c hc' => B9 x d t c hx ht (Or.inl (by rw [hl]; exact hc'))) fu_ (sT h x.1 x.2.1 x.2.2) a (by decide) g1 (fun y hy => v y ((w1 y).mp hy)) ag
    refine ⟨1, h', ?_, ⟨fun e => absurd e (by decide), fun e => absurd e hc⟩, r2, ?_, r4⟩
    · unfold f_X8_doActions b_X8_doActions_0
      rw [sf_r0 F, Option.bind_some, mr_v M, Option.bind_some, e_set0 M, Option.bind_some, sf_r0 F1, Option.bind_some, mg_v M, Option.bind_some, e_can M, Option.bind_some, if_neg hc]
      unfold b_X8_doActions_25
      rw [sf_r0 F1, Option.bind_some, mg_v M, Option.bind_some, e_si M, Option.bind_some]
      exact r1
    · intro y hy
      obtain h1 | h1 := r3 y hy
      · exact Or.inl ((w1 y).mp h1)
      · exact Or.inr h1
theorem v_es (B : VB K nt goal co pr G Vs fin st le Rc) {rc : Nat → Int64 → Int64 → Int64 → Int32 → AH → Option AH} {f d : Nat} (H : cIH K nt goal G Vs fin st le Rc rc f (d + 1)) {x : KY} {t : Nat} {p : Nat → Int32} (hx : Rc x d) (ht : t < nt) {h : AH} {a : α} (g : G h a) (v : cVI K nt goal Vs fin st le Rc h a (d + 1)) (ag : cAG p h d) :
    ∃ b h', f_X8_doEmptying rc 74 x.1 x.2.1 x.2.2 (nI t) (nI d) h = some (b, h') ∧ (b = 0 ↔ m_hq K x.1 (nI t) = 0) ∧ G h' (cFo K nt goal fin st f d p (ky_es K x t) a) ∧ cNV K nt goal Vs fin st le Rc h h' (cFo K nt goal fin st f d p (ky_es K x t) a) (d + 1) ∧ cAG p h' d := by
  obtain ⟨B1, B2, B3, B4, B5, O, B7, B8, B9, B10, B11, B12, B13, B14⟩ := B
  obtain ⟨M, F, -⟩ := B1 h a g
  have F1 : SF (sT h x.1 x.2.1 x.2.2) pr co goal := F
  by_cases hc : m_hq K x.1 (nI t) = 0
  · obtain ⟨g1, w1⟩ := B2 h a x.1 x.2.1 x.2.2 g
    refine ⟨0, sT h x.1 x.2.1 x.2.2, ?_, ⟨fun _ => hc, fun _ => rfl⟩, ?_, ?_, ag⟩
    · unfold f_X8_doEmptying b_X8_doEmptying_0
      rw [sf_r0 F, Option.bind_some, mr_v M, Option.bind_some, e_set0 M, Option.bind_some, sf_r0 F1, Option.bind_some, mg_v M, Option.bind_some, e_hq M, Option.bind_some, if_pos hc]
      exact ok_z_0
    · unfold ky_es; rw [if_pos hc]; exact g1
    · exact cNV_eq (fun y hy => (w1 y).mp hy)
  · have hl : ky_es K x t = [(9, ky_em K x (nI t))] := by unfold ky_es; rw [if_neg hc]
    have hnp : ∀ a x d p p', fin a x d p = fin a x d p' := by
      obtain h1 | h1 := B14
      · exact absurd (h1 x d t hx ht) hc
      · exact h1
    have hrc : Rc (ky_em K x (nI t)) (d + 1) := B9 x d t (9, ky_em K x (nI t)) hx ht (Or.inr (by rw [hl]; exact List.mem_cons_self))
    obtain ⟨g1, w1⟩ := B2 h a (ky_em K x (nI t)).1 (ky_em K x (nI t)).2.1 (ky_em K x (nI t)).2.2 g
    obtain ⟨h', r1, r2, r3, r4⟩ := H (ky_em K x (nI t)) _ a (hp_i h 97) hrc g1 (fun y hy => v y ((w1 y).mp hy)) (fun k hk => rfl)
    have hfo : cFo K nt goal fin st f d p (ky_es K x t) a = cT K nt goal fin st f (ky_em K x (nI t)) (d + 1) (hp_i h 97) a := by
      rw [hl]
      show cT K nt goal fin st f (ky_em K x (nI t)) (d + 1) (pth p d 9) a = _
      exact cT_np hnp _ _ _ _ _ _
    rw [hfo]
    refine ⟨1, h', ?_, ⟨fun e => absurd e (by decide), fun e => absurd e hc⟩, r2, ?_, ?_⟩
    · unfold f_X8_doEmptying b_X8_doEmptying_0
      rw [sf_r0 F, Option.bind_some, mr_v M, Option.bind_some, e_set0 M, Option.bind_some, sf_r0 F1, Option.bind_some, mg_v M, Option.bind_some, e_hq M, Option.bind_some, if_neg hc]
      have F2 : SF (sT h (ky_em K x (nI t)).1 (ky_em K x (nI t)).2.1 (ky_em K x (nI t)).2.2) pr co goal := F
      unfold b_X8_doEmptying_25
      rw [sf_r0 F1, Option.bind_some, mg_v M, Option.bind_some, e_em M, Option.bind_some]
      rw [show sT h (m_eT x.1 (m_eq (m_qu K x.1 (nI t)) 8 0)) (m_eC K x.2.1 (m_eq (m_qu K x.1 (nI t)) 8 0)) x.2.2 = sT h (ky_em K x (nI t)).1 (ky_em K x (nI t)).2.1 (ky_em K x (nI t)).2.2 from rfl]
      rw [sf_r0 F2, Option.bind_some, mg_j0 M, Option.bind_some, Option.bind_some, mg_j1 M, Option.bind_some, Option.bind_some, mg_j2 M, Option.bind_some, sf_v F2, Option.bind_some, nI_1, r1, Option.bind_some]
      exact ok_z_1
    · intro y hy
      obtain h1 | h1 := r3 y hy
      · exact Or.inl ((w1 y).mp h1)
      · exact Or.inr h1
    · intro k hk
      rw [r4 k (by omega)]
      exact ag k hk
theorem cFo_app {f d : Nat} {p : Nat → Int32} (l l' : List (Nat × KY)) (a : α) : cFo K nt goal fin st f d p (l ++ l') a = cFo K nt goal fin st f d p l' (cFo K nt goal fin st f d p l a) := List.foldl_append
theorem v_th (B : VB K nt goal co pr G Vs fin st le Rc) {rc : Nat → Int64 → Int64 → Int64 → Int32 → AH → Option AH} {f d : Nat} (H : cIH K nt goal G Vs fin st le Rc rc f (d + 1)) {x : KY} {p : Nat → Int32} (hx : Rc x d) :
    ∀ (n : Nat), n ≤ nt → ∀ (fu : Nat) (mv : Int32) (h : AH) (a : α), n < fu → G h a → cVI K nt goal Vs fin st le Rc h a (d + 1) → cAG p h d →
    ∃ mv' h', l_X8_visit_72 rc fu 74 x.1 x.2.1 x.2.2 (nI d) mv (nI (nt - n)) h = b_X8_visit_143 rc 74 x.1 x.2.1 x.2.2 (nI d) mv' h' ∧ (mv' = 0 ↔ mv = 0 ∧ ky_mv K x n (nt - n) = false) ∧ G h' (cFo K nt goal fin st f d p (ky_th K x n (nt - n)) a) ∧ cNV K nt goal Vs fin st le Rc h h' (cFo K nt goal fin st f d p (ky_th K x n (nt - n)) a) (d + 1) ∧ cAG p h' d := by
  have B' := B
  obtain ⟨B1, B2, B3, B4, B5, O, B7, B8, B9, B10, B11, B12, B13, B14⟩ := B
  intro n
  induction n with
  | zero =>
    intro _ fu mv h a hf g v ag
    obtain ⟨fu, rfl⟩ : ∃ f, fu = f + 1 := ⟨fu - 1, by omega⟩
    obtain ⟨M, F, -⟩ := B1 h a g
    refine ⟨mv, h, ?_, ⟨fun e => ⟨e, rfl⟩, fun e => e.1⟩, g, cNV_eq (fun _ h => h), ag⟩
    show b_X8_visit_72 rc (l_X8_visit_72 rc fu) 74 x.1 x.2.1 x.2.2 (nI d) mv (nI (nt - 0)) h = _
    unfold b_X8_visit_72
    rw [sf_r7 F, Option.bind_some, sf_p0 F, Option.bind_some, mr_ci M, Option.bind_some, B11, if_pos (nI_le (by omega) (by omega))]
  | succ n ih =>
    intro hn fu mv h a hf g v ag
    obtain ⟨fu, rfl⟩ : ∃ f, fu = f + 1 := ⟨fu - 1, by omega⟩
    obtain ⟨M, F, -⟩ := B1 h a g
    obtain ⟨b1, h1, r1, r2, r3, r4, r5⟩ := v_es (t := nt - (n + 1)) B' H hx (by omega) g v ag
    have l1 : le a (cFo K nt goal fin st f d p (ky_es K x (nt - (n + 1))) a) := cFo_le O _ _
    have v1 := cVI_nv O l1 v r4
    obtain ⟨M1, F1, -⟩ := B1 h1 _ r3
    obtain ⟨b2, h2, s1, s2, s3, s4, s5⟩ := v_as (t := nt - (n + 1)) B' H hx (by omega) r3 v1 r5
    have l2 : le (cFo K nt goal fin st f d p (ky_es K x (nt - (n + 1))) a) (cFo K nt goal fin st f d p (ky_as K x (nt - (n + 1))) (cFo K nt goal fin st f d p (ky_es K x (nt - (n + 1))) a)) := cFo_le O _ _
    have v2 := cVI_nv O l2 v1 s4
    have hs : nI (nt - (n + 1)) + 1 = nI (nt - n) := by rw [nI_1]; congr 1; omega
    have hs' : nt - (n + 1) + 1 = nt - n := by omega
    obtain ⟨mv', h3, t1, t2, t3, t4, t5⟩ := ih (by omega) fu (if mv = 0 then (if b1 = 0 then (if b2 = 0 then 0 else 1) else 1) else 1) h2 _ (by omega) s3 v2 s5
    have hth : ky_th K x (n + 1) (nt - (n + 1)) = ky_es K x (nt - (n + 1)) ++ (ky_as K x (nt - (n + 1)) ++ ky_th K x n (nt - n)) := by
      rw [← hs']; rfl
    refine ⟨mv', h3, ?_, ?_, ?_, ?_, t5⟩
    · rw [← t1]
      show b_X8_visit_72 rc (l_X8_visit_72 rc fu) 74 x.1 x.2.1 x.2.2 (nI d) mv (nI (nt - (n + 1))) h = _
      unfold b_X8_visit_72
      rw [sf_r7 F, Option.bind_some, sf_p0 F, Option.bind_some, mr_ci M, Option.bind_some, B11, if_neg (nI_ge (by omega) (by omega))]
      unfold b_X8_visit_87
      rw [sf_v F, Option.bind_some, r1, Option.bind_some, sf_v F1, Option.bind_some, s1, Option.bind_some]
      unfold b_X8_visit_120 b_X8_visit_125 b_X8_visit_130 b_X8_visit_134 b_X8_visit_135
      rw [hs]
      by_cases e1 : mv = 0
      · rw [if_pos e1, if_pos e1]
        by_cases e2 : b1 = 0
        · rw [if_pos e2, if_pos e2]
          by_cases e3 : b2 = 0
          · rw [if_pos e3, if_pos e3]
          · rw [if_neg e3, if_neg e3]
        · rw [if_neg e2, if_neg e2]
      · rw [if_neg e1, if_neg e1]
    · rw [t2]
      have hmv : ky_mv K x (n + 1) (nt - (n + 1)) = ((!decide (m_hq K x.1 (nI (nt - (n + 1))) = 0)) || (!decide (m_can K x.1 (nI (nt - (n + 1))) = 0)) || ky_mv K x n (nt - n)) := by
        rw [← hs']; rfl
      rw [hmv]
      by_cases e1 : mv = 0
      · rw [if_pos e1]
        by_cases e2 : b1 = 0
        · rw [if_pos e2, decide_eq_true (r2.mp e2)]
          by_cases e3 : b2 = 0
          · rw [if_pos e3, decide_eq_true (s2.mp e3)]
            simp [e1]
          · rw [if_neg e3, decide_eq_false (fun h => e3 (s2.mpr h))]
            simp
        · rw [if_neg e2, decide_eq_false (fun h => e2 (r2.mpr h))]
          simp
      · rw [if_neg e1]
        simp [e1]
    · rw [hth, cFo_app, cFo_app]; exact t3
    · rw [hth, cFo_app, cFo_app]
      exact cNV_tr O (cFo_le O _ _) (cNV_tr O l2 r4 s4) t4
theorem v_hul {h : AH} (M : MR h K co) (F : SF h pr co goal) (hnt : nt ≤ 4) (hK : K 10 11 = nI nt) {x : KY} : ∀ (n : Nat), n ≤ nt → ∀ fu, n < fu → l_X8_hurryingThread_12 fu 74 (nI (nt - n)) (sT h x.1 x.2.1 x.2.2) = some ((match ky_hu K x n (nt - n) with | none => -1 | some t => nI t), sT h x.1 x.2.1 x.2.2) := by
  have F1 : SF (sT h x.1 x.2.1 x.2.2) pr co goal := F
  intro n
  induction n with
  | zero =>
    intro _ fu hf
    obtain ⟨fu, rfl⟩ : ∃ f, fu = f + 1 := ⟨fu - 1, by omega⟩
    show b_X8_hurryingThread_12 (l_X8_hurryingThread_12 fu) 74 (nI (nt - 0)) _ = _
    unfold b_X8_hurryingThread_12
    rw [sf_r7 F1, Option.bind_some, sf_p0 F1, Option.bind_some, mg_ci M, Option.bind_some, hK, if_pos (nI_le (by omega) (by omega))]
    rfl
  | succ n ih =>
    intro hn fu hf
    obtain ⟨fu, rfl⟩ : ∃ f, fu = f + 1 := ⟨fu - 1, by omega⟩
    have hs : nI (nt - (n + 1)) + 1 = nI (nt - n) := by rw [nI_1]; congr 1; omega
    have hs' : nt - (n + 1) + 1 = nt - n := by omega
    show b_X8_hurryingThread_12 (l_X8_hurryingThread_12 fu) 74 (nI (nt - (n + 1))) _ = _
    unfold b_X8_hurryingThread_12
    rw [sf_r7 F1, Option.bind_some, sf_p0 F1, Option.bind_some, mg_ci M, Option.bind_some, hK, if_neg (nI_ge (by omega) (by omega))]
    unfold b_X8_hurryingThread_26
    rw [sf_r0 F1, Option.bind_some, mg_v M, Option.bind_some, e_hu M, Option.bind_some]
    unfold ky_hu
    rw [hs']
    by_cases e : m_hu K x.1 (nI (nt - (n + 1))) = 0
    · rw [if_pos e, if_pos e]
      unfold b_X8_hurryingThread_39
      rw [hs]
      exact ih (by omega) fu (by omega)
    · rw [if_neg e, if_neg e]
      rfl
theorem v_hu {h : AH} (M : MR h K co) (F : SF h pr co goal) (hnt : nt ≤ 4) (hK : K 10 11 = nI nt) (hg : goal ≤ 3) {x : KY} : f_X8_hurryingThread 74 (sT h x.1 x.2.1 x.2.2) = some ((match (if goal = 2 then none else ky_hu K x nt 0) with | none => -1 | some t => nI t), sT h x.1 x.2.1 x.2.2) := by
  have F1 : SF (sT h x.1 x.2.1 x.2.2) pr co goal := F
  unfold f_X8_hurryingThread b_X8_hurryingThread_0
  rw [sf_i8 F1, Option.bind_some]
  by_cases e : goal = 2
  · rw [if_pos (by rw [e]; rfl), if_pos e]
    rfl
  · rw [if_neg (by rw [show (2 : Int32) = nI 2 from rfl, nI_eq (by omega) (by omega)]; exact e), if_neg e]
    have := v_hul (x := x) M F hnt hK nt (Nat.le_refl nt) fu_ (by unfold fu_; omega)
    rw [Nat.sub_self] at this
    exact this
theorem ky_hu_lt {x : KY} : ∀ (n i t : Nat), ky_hu K x n i = some t → t < i + n := by
  intro n
  induction n with
  | zero => intro i t h; cases h
  | succ n ih =>
    intro i t h
    unfold ky_hu at h
    split at h
    · have := ih (i + 1) t h; omega
    · cases h; omega
theorem v_visit (B : VB K nt goal co pr G Vs fin st le Rc) : ∀ (f d D : Nat), d + f = 17 → f < D → cIH K nt goal G Vs fin st le Rc (f_X8_visit D) f d := by
  have B' := B
  obtain ⟨B1, B2, B3, B4, B5, O, B7, B8, B9, B10, B11, B12, B13, B14⟩ := B
  intro f
  induction f with
  | zero =>
    intro d D hd hD c h a p hc
    have := B7 c d hc
    omega
  | succ f ih =>
    intro d D hd hD x h a p hx g v ag
    obtain ⟨D, rfl⟩ : ∃ D', D = D' + 1 := ⟨D - 1, by omega⟩
    have H := ih (d + 1) D (by omega) (by omega)
    obtain ⟨M, F, hst⟩ := B1 h a g
    have hdd := B7 x d hx
    have hi11 : g_i h 74 8 11 = some (if st a = true then 1 else 0) := by rw [← hst]; exact if_pos F.1
    show ∃ h', f_X8_visit_o (f_X8_visit D) 74 x.1 x.2.1 x.2.2 (nI d) h = some h' ∧ _
    unfold f_X8_visit_o b_X8_visit_0
    rw [hi11, Option.bind_some]
    by_cases hs : st a = true
    · rw [if_pos hs, if_neg (by decide)]
      have : cT K nt goal fin st (f + 1) x d p a = a := by unfold cT; rw [if_pos hs]
      rw [this]
      exact ⟨h, rfl, g, cNV_eq (fun _ h => h), ag⟩
    · rw [if_neg hs, if_pos rfl]
      unfold b_X8_visit_7
      rw [if_neg (show ¬ (16 : Int32) < nI d from nI_nlt (a := 16) (by omega) (by omega))]
      obtain ⟨b, h1, n1, n2, n3, n4, n5⟩ := B4 h a x g
      unfold b_X8_visit_14
      rw [sf_r1 F, Option.bind_some, sf_v9 F, Option.bind_some, n1, Option.bind_some]
      have f17 : 17 - d = f + 1 := by omega
      by_cases hb : b = 0
      · rw [if_pos hb]
        obtain ⟨dy, y1, y2⟩ := v x (n3 hb)
        obtain rfl : dy = d := B8 x dy d y1 hx
        have hab := y2 (Nat.le_refl _)
        have e : cT K nt goal fin st (f + 1) x dy p a = a := by
          have := hab a (O.1 a) p
          rw [f17] at this
          exact this
        rw [e]
        refine ⟨h1, rfl, n2, ?_, fun k hk => by rw [n5]; exact ag k hk⟩
        intro y hy
        obtain h2 | h2 := n4 y hy
        · exact Or.inl h2
        · subst h2; exact Or.inl (n3 hb)
      · rw [if_neg hb]
        obtain ⟨M1, F1, -⟩ := B1 h1 a n2
        obtain ⟨g2, w2⟩ := B2 h1 a x.1 x.2.1 x.2.2 n2
        have F2 : SF (sT h1 x.1 x.2.1 x.2.2) pr co goal := F1
        have ag1 : cAG p (sT h1 x.1 x.2.1 x.2.2) d := fun k hk => by
          show hp_i h1 97 k = _
          rw [n5]; exact ag k hk
        have v1 : cVI K nt goal Vs fin st le Rc (sT h1 x.1 x.2.1 x.2.2) a (d + 1) := by
          intro y hy
          obtain h2 | h2 := n4 y ((w2 y).mp hy)
          · obtain ⟨dy, y1, y2⟩ := v y h2
            exact ⟨dy, y1, fun h => y2 (by omega)⟩
          · subst h2; exact ⟨d, hx, fun h => by omega⟩
        -- what is left to show of the heap at the end
        have fino : ∀ (h' : AH) (r : α), r = cT K nt goal fin st (f + 1) x d p a → cNV K nt goal Vs fin st le Rc (sT h1 x.1 x.2.1 x.2.2) h' r (d + 1) → cNV K nt goal Vs fin st le Rc h h' r d := by
          intro h' r hr N y hy
          obtain h2 | ⟨dy, y1, y2, y3⟩ := N y hy
          · obtain h3 | h3 := n4 y ((w2 y).mp h2)
            · exact Or.inl h3
            · subst h3
              refine Or.inr ⟨d, Nat.le_refl d, hx, ?_⟩
              intro a' hle p'
              rw [f17]
              rw [hr] at hle
              exact cT_ab O (f + 1) y d p p' a a' hle
          · exact Or.inr ⟨dy, by omega, y2, y3⟩
        unfold b_X8_visit_29
        rw [sf_r0 F1, Option.bind_some, mr_v M1, Option.bind_some, e_set0 M1, Option.bind_some, sf_v F2, Option.bind_some, v_hu M1 F1 B10 B11 B12, Option.bind_some]
        have hcT : cT K nt goal fin st (f + 1) x d p a = (match (if goal = 2 then none else ky_hu K x nt 0) with | some t => cFo K nt goal fin st f d p (ky_as K x t) a | none => if ky_mv K x nt 0 = true then cFo K nt goal fin st f d p (ky_th K x nt 0) a else fin a x d p) := by
          unfold cT
          rw [if_neg hs]
          rfl
        have hsf : st a = false := Bool.eq_false_iff.mpr hs
        cases hh : (if goal = 2 then none else ky_hu K x nt 0) with
        | none =>
          rw [hh] at hcT
          show ∃ h', (if (-1 : Int32) = -1 then b_X8_visit_66 (f_X8_visit D) 74 x.1 x.2.1 x.2.2 (nI d) (sT h1 x.1 x.2.1 x.2.2) else _) = some h' ∧ _
          rw [if_pos rfl]
          obtain ⟨mv', h3, t1, t2, t3, t4, t5⟩ := v_th B' H hx nt (Nat.le_refl nt) fu_ 0 _ a (by unfold fu_; omega) g2 v1 ag1
          rw [Nat.sub_self] at t1 t2 t3 t4
          have t1' : b_X8_visit_66 (f_X8_visit D) 74 x.1 x.2.1 x.2.2 (nI d) (sT h1 x.1 x.2.1 x.2.2) = b_X8_visit_143 (f_X8_visit D) 74 x.1 x.2.1 x.2.2 (nI d) mv' h3 := t1
          rw [t1']
          unfold b_X8_visit_143
          by_cases hm : ky_mv K x nt 0 = true
          · have hmv : ¬ mv' = 0 := fun e => by
              have := (t2.mp e).2
              rw [hm] at this
              cases this
            rw [if_neg hmv]
            have e : cT K nt goal fin st (f + 1) x d p a = cFo K nt goal fin st f d p (ky_th K x nt 0) a := by
              rw [hcT]
              show (if ky_mv K x nt 0 = true then _ else _) = _
              rw [if_pos hm]
            rw [e]
            exact ⟨h3, rfl, t3, fino h3 _ e.symm t4, t5⟩
          · have hmv : mv' = 0 := t2.mpr ⟨rfl, Bool.eq_false_iff.mpr hm⟩
            rw [if_pos hmv]
            have hnil : ∀ n i, ky_mv K x n i = false → ky_th K x n i = [] := by
              intro n
              induction n with
              | zero => intro i _; rfl
              | succ n ihn =>
                intro i hi
                unfold ky_mv at hi
                rw [Bool.or_eq_false_iff, Bool.or_eq_false_iff] at hi
                obtain ⟨⟨i1, i2⟩, i3⟩ := hi
                unfold ky_th ky_es ky_as
                rw [if_pos (by simpa using i1), if_pos (by simpa using i2), ihn (i + 1) i3]
                rfl
            rw [hnil nt 0 (Bool.eq_false_iff.mpr hm)] at t3 t4
            have t3' : G h3 a := t3
            obtain ⟨M3, F3, -⟩ := B1 h3 a t3'
            have F4 : SF (sT h3 x.1 x.2.1 x.2.2) pr co goal := F3
            obtain ⟨h5, u1, u2, u3, u4⟩ := B5 h3 a x d t3' hsf hx (Bool.eq_false_iff.mpr hm)
            unfold b_X8_visit_148 b_X8_visit_165
            rw [sf_r0 F3, Option.bind_some, mr_v M3, Option.bind_some, e_set0 M3, Option.bind_some, sf_v F4, Option.bind_some, u1, Option.bind_some]
            have e : cT K nt goal fin st (f + 1) x d p a = fin a x d (hp_i h3 97) := by
              rw [hcT]
              show (if ky_mv K x nt 0 = true then _ else _) = _
              rw [if_neg hm]
              exact B13 a x d p _ (fun k hk => (t5 k hk).symm)
            rw [e]
            refine ⟨h5, rfl, u2, fino h5 _ e.symm ?_, fun k hk => by rw [u4]; exact t5 k hk⟩
            intro y hy
            obtain h6 | ⟨dy, y1, y2, y3⟩ := t4 y ((u3 y).mp hy)
            · exact Or.inl h6
            · exact Or.inr ⟨dy, y1, y2, cAb_le O (O.2.2.1 a x d _) y3⟩
        | some t =>
          rw [hh] at hcT
          have ht : t < nt := by
            split at hh
            · cases hh
            · have := ky_hu_lt nt 0 t hh; omega
          show ∃ h', (if nI t = -1 then _ else b_X8_visit_52 (f_X8_visit D) 74 x.1 x.2.1 x.2.2 (nI d) (nI t) (sT h1 x.1 x.2.1 x.2.2)) = some h' ∧ _
          rw [if_neg (nI_ne1 (by omega))]
          obtain ⟨b2, h2, s1, s2, s3, s4, s5⟩ := v_as B' H hx ht g2 v1 ag1
          unfold b_X8_visit_52
          rw [sf_v F2, Option.bind_some, s1, Option.bind_some]
          have e : cT K nt goal fin st (f + 1) x d p a = cFo K nt goal fin st f d p (ky_as K x t) a := hcT
          rw [e]
          exact ⟨h2, rfl, s3, fino h2 _ e.symm s4, s5⟩
end
