/-! ===== the class's search with its memory gathers what the fold gathers ===== -/
def SF (h : AH) (pr co goal : Nat) : Prop :=
  ok_o h 74 8 ∧ hp_r h 74 0 = 75 ∧ hp_r h 74 1 = 90 ∧ ok_o h 90 9 ∧ hp_r h 74 3 = 97 ∧ ok_o h 97 100 ∧ hp_l h 97 = 17 ∧ hp_r h 74 7 = pr ∧ ok_o h pr 5 ∧ hp_r h pr 0 = co ∧ hp_i h 74 8 = nI goal
section
variable {h : AH} {pr co goal : Nat} {T C E : Int64}
theorem sf_r0 (F : SF h pr co goal) : g_r h 74 8 0 = some 75 := by rw [← F.2.1]; exact if_pos F.1
theorem sf_r1 (F : SF h pr co goal) : g_r h 74 8 1 = some 90 := by rw [← F.2.2.1]; exact if_pos F.1
theorem sf_r3 (F : SF h pr co goal) : g_r h 74 8 3 = some 97 := by rw [← F.2.2.2.2.1]; exact if_pos F.1
theorem sf_r7 (F : SF h pr co goal) : g_r h 74 8 7 = some pr := by rw [← F.2.2.2.2.2.2.2.1]; exact if_pos F.1
theorem sf_p0 (F : SF h pr co goal) : g_r h pr 5 0 = some co := by rw [← F.2.2.2.2.2.2.2.2.2.1]; exact if_pos F.2.2.2.2.2.2.2.2.1
theorem sf_i8 (F : SF h pr co goal) : g_i h 74 8 8 = some (nI goal) := by rw [← F.2.2.2.2.2.2.2.2.2.2]; exact if_pos F.1
theorem sf_v (F : SF h pr co goal) : ok_v h 74 8 = some () := if_pos F.1
theorem sf_v9 (F : SF h pr co goal) : ok_v h 90 9 = some () := if_pos F.2.2.2.1
theorem sf_al (F : SF h pr co goal) : al_n h 97 = some 17 := by
  have : al_n h 97 = some (Int32.ofNat (hp_l h 97)) := if_pos ⟨F.2.2.2.2.2.1.1, F.2.2.2.2.2.1.2.1, by rw [F.2.2.2.2.2.1.2.2]; omega, by rw [F.2.2.2.2.2.1.2.2]; omega⟩
  rw [this, F.2.2.2.2.2.2.1]; rfl
theorem sf_si (F : SF h pr co goal) {d : Nat} (hd : d < 17) {v : Int32} : s_i h 97 (nI d) v = some (st_i h 97 d v) := by
  have e : s_i h 97 (nI d) v = some (st_i h 97 (nI d).toNatClampNeg v) := if_pos ⟨F.2.2.2.2.2.1, nI_pos (by omega), by rw [nI_clamp (by omega), F.2.2.2.2.2.2.1]; exact hd⟩
  rw [nI_clamp (by omega)] at e
  exact e
theorem sf_T (F : SF h pr co goal) : SF (sT h T C E) pr co goal := F
theorem mr_ci {K : Nat → Nat → Int32} (M : MR h K co) (i : Nat) : g_i h co 0 i = some (K 10 i) := by
  rw [← M.2.2.2.2.1]; exact if_pos M.2.2.1
theorem mr_v {K : Nat → Nat → Int32} (M : MR h K co) : ok_v h 75 2 = some () := if_pos M.1
theorem mr_T {K : Nat → Nat → Int32} (M : MR h K co) : MR (sT h T C E) K co := M
theorem e_set0 {K : Nat → Nat → Int32} (M : MR h K co) : f_X2_set 75 T C E h = some (sT h T C E) := by
  unfold f_X2_set b_X2_set_0
  rw [show p_j h 75 2 0 T = some (st_j h 75 0 T) from if_pos M.1, Option.bind_some, show p_j (st_j h 75 0 T) 75 2 1 C = some (st_j (st_j h 75 0 T) 75 1 C) from if_pos M.1, Option.bind_some, show p_j (st_j (st_j h 75 0 T) 75 1 C) 75 2 2 E = some (st_j (st_j (st_j h 75 0 T) 75 1 C) 75 2 E) from if_pos M.1, Option.bind_some]
  rfl
end
/-- what a mode of the search must keep -/
def VB {α : Type} (K : Nat → Nat → Int32) (nt goal co pr : Nat) (G : AH → α → Prop) (Vs : AH → KY → Prop) (fin : α → KY → Nat → (Nat → Int32) → α) (st : α → Bool) (le : α → α → Prop) (Rc : KY → Nat → Prop) : Prop :=
  (∀ h a, G h a → MR h K co ∧ SF h pr co goal ∧ hp_i h 74 11 = (if st a = true then 1 else 0)) ∧
  (∀ h a T C E, G h a → G (sT h T C E) a ∧ (∀ y, Vs (sT h T C E) y ↔ Vs h y)) ∧
  (∀ h a k v, k < 17 → G h a → G (st_i h 97 k v) a ∧ (∀ y, Vs (st_i h 97 k v) y ↔ Vs h y)) ∧
  (∀ h a x, G h a → ∃ b h', f_X9_isNew 90 x.1 x.2.1 x.2.2 h = some (b, h') ∧ G h' a ∧ (b = 0 → Vs h x) ∧ (∀ y, Vs h' y → Vs h y ∨ y = x) ∧ hp_i h' 97 = hp_i h 97) ∧
  (∀ h a x d, G h a → st a = false → Rc x d → ky_mv K x nt 0 = false → ∃ h', f_X8_finish 74 (nI d) (sT h x.1 x.2.1 x.2.2) = some h' ∧ G h' (fin a x d (hp_i h 97)) ∧ (∀ y, Vs h' y ↔ Vs h y) ∧ hp_i h' 97 = hp_i h 97) ∧
  OA fin st le ∧
  (∀ x d, Rc x d → d ≤ 16) ∧ (∀ x d d', Rc x d → Rc x d' → d = d') ∧ (∀ x d t c, Rc x d → t < nt → (c ∈ ky_as K x t ∨ c ∈ ky_es K x t) → Rc c.2 (d + 1)) ∧
  nt ≤ 4 ∧ K 10 11 = nI nt ∧ goal ≤ 3 ∧
  (∀ a x d p p', (∀ k, k < d → p k = p' k) → fin a x d p = fin a x d p') ∧
  ((∀ x d t, Rc x d → t < nt → m_hq K x.1 (nI t) = 0) ∨ (∀ a x d p p', fin a x d p = fin a x d p'))
def cAb {α : Type} (K : Nat → Nat → Int32) (nt goal : Nat) (fin : α → KY → Nat → (Nat → Int32) → α) (st : α → Bool) (le : α → α → Prop) (x : KY) (d : Nat) (a : α) : Prop := ∀ a', le a a' → ∀ p', cT K nt goal fin st (17 - d) x d p' a' = a'
def cVI {α : Type} (K : Nat → Nat → Int32) (nt goal : Nat) (Vs : AH → KY → Prop) (fin : α → KY → Nat → (Nat → Int32) → α) (st : α → Bool) (le : α → α → Prop) (Rc : KY → Nat → Prop) (h : AH) (a : α) (d : Nat) : Prop := ∀ y, Vs h y → ∃ dy, Rc y dy ∧ (d ≤ dy → cAb K nt goal fin st le y dy a)
def cNV {α : Type} (K : Nat → Nat → Int32) (nt goal : Nat) (Vs : AH → KY → Prop) (fin : α → KY → Nat → (Nat → Int32) → α) (st : α → Bool) (le : α → α → Prop) (Rc : KY → Nat → Prop) (h h' : AH) (r : α) (d : Nat) : Prop := ∀ y, Vs h' y → Vs h y ∨ ∃ dy, d ≤ dy ∧ Rc y dy ∧ cAb K nt goal fin st le y dy r
def cAG (p : Nat → Int32) (h : AH) (d : Nat) : Prop := ∀ k, k < d → hp_i h 97 k = p k
section
variable {α : Type} {K : Nat → Nat → Int32} {nt goal co pr : Nat} {G : AH → α → Prop} {Vs : AH → KY → Prop} {fin : α → KY → Nat → (Nat → Int32) → α} {st : α → Bool} {le : α → α → Prop} {Rc : KY → Nat → Prop}
theorem cAb_le (O : OA fin st le) {x : KY} {d : Nat} {a b : α} (h : le a b) (H : cAb K nt goal fin st le x d a) : cAb K nt goal fin st le x d b := fun a' h' p' => H a' (O.2.1 _ _ _ h h') p'
theorem cVI_nv (O : OA fin st le) {h h' : AH} {a r : α} {d : Nat} (hle : le a r) (I : cVI K nt goal Vs fin st le Rc h a d) (N : cNV K nt goal Vs fin st le Rc h h' r d) : cVI K nt goal Vs fin st le Rc h' r d := by
  intro y hy
  obtain h1 | ⟨dy, h1, h2, h3⟩ := N y hy
  · obtain ⟨dy, h2, h3⟩ := I y h1
    exact ⟨dy, h2, fun h => cAb_le O hle (h3 h)⟩
  · exact ⟨dy, h2, fun _ => h3⟩
theorem cNV_tr (O : OA fin st le) {h h1 h2 : AH} {r1 r2 : α} {d : Nat} (hle : le r1 r2) (N1 : cNV K nt goal Vs fin st le Rc h h1 r1 d) (N2 : cNV K nt goal Vs fin st le Rc h1 h2 r2 d) : cNV K nt goal Vs fin st le Rc h h2 r2 d := by
  intro y hy
  obtain h3 | h3 := N2 y hy
  · obtain h4 | ⟨dy, h4, h5, h6⟩ := N1 y h3
    · exact Or.inl h4
    · exact Or.inr ⟨dy, h4, h5, cAb_le O hle h6⟩
  · exact Or.inr h3
theorem cNV_eq {h h' : AH} {r : α} {d : Nat} (H : ∀ y, Vs h' y → Vs h y) : cNV K nt goal Vs fin st le Rc h h' r d := fun y hy => Or.inl (H y hy)
theorem cT_np (h : ∀ a x d p p', fin a x d p = fin a x d p') : ∀ (f : Nat) (x : KY) (d : Nat) (p p' : Nat → Int32) (a : α), cT K nt goal fin st f x d p a = cT K nt goal fin st f x d p' a := by
  intro f
  induction f with
  | zero => intro x d p p' a; rfl
  | succ f ih =>
    intro x d p p' a
    unfold cT
    have e : (fun (a : α) (c : Nat × KY) => cT K nt goal fin st f c.2 (d + 1) (pth p d c.1) a) = (fun (a : α) (c : Nat × KY) => cT K nt goal fin st f c.2 (d + 1) (pth p' d c.1) a) := by
      funext a c
      exact ih c.2 (d + 1) _ _ a
    rw [e, h a x d p p']
/-- the visit of one child, as the loops need it -/
def cIH (K : Nat → Nat → Int32) (nt goal : Nat) (G : AH → α → Prop) (Vs : AH → KY → Prop) (fin : α → KY → Nat → (Nat → Int32) → α) (st : α → Bool) (le : α → α → Prop) (Rc : KY → Nat → Prop) (rc : Nat → Int64 → Int64 → Int64 → Int32 → AH → Option AH) (f d : Nat) : Prop :=
  ∀ (c : KY) (h : AH) (a : α) (p : Nat → Int32), Rc c d → G h a → cVI K nt goal Vs fin st le Rc h a d → cAG p h d → ∃ h', rc 74 c.1 c.2.1 c.2.2 (nI d) h = some h' ∧ G h' (cT K nt goal fin st f c d p a) ∧ cNV K nt goal Vs fin st le Rc h h' (cT K nt goal fin st f c d p a) d ∧ cAG p h' d
def cFo (K : Nat → Nat → Int32) (nt goal : Nat) (fin : α → KY → Nat → (Nat → Int32) → α) (st : α → Bool) (f d : Nat) (p : Nat → Int32) (l : List (Nat × KY)) (a : α) : α := l.foldl (fun a c => cT K nt goal fin st f c.2 (d + 1) (pth p d c.1) a) a
theorem cFo_le (O : OA fin st le) {f d : Nat} {p : Nat → Int32} (l : List (Nat × KY)) (a : α) : le a (cFo K nt goal fin st f d p l a) := fl_le O.1 O.2.1 (fun a (c : Nat × KY) => cT_le O f c.2 (d + 1) (pth p d c.1) a) l a
theorem gj_sti {h : AH} {r k r' c j : Nat} {v : Int32} : g_j (st_i h r k v) r' c j = g_j h r' c j := rfl
theorem sf_97 {h : AH} {d : Nat} {v : Int32} (F : SF h pr co goal) : SF (st_i h 97 d v) pr co goal := by
  obtain ⟨f1, f2, f3, f4, f5, f6, f7, f8, f9, f10, f11⟩ := F
  refine ⟨f1, f2, f3, f4, f5, f6, f7, f8, f9, f10, ?_⟩
  show up_2 (hp_i h) 97 d v 74 8 = nI goal
  rw [up2_r (by decide)]; exact f11
theorem v_ac0 {h : AH} (M : MR h K co) (F : SF h pr co goal) {rc : Nat → Int64 → Int64 → Int64 → Int32 → AH → Option AH} {r39 : Nat → Int64 → Int64 → Int64 → Int32 → Int32 → Int32 → Int32 → AH → Option (Int32 × AH)} {t s d : Nat} {x1 x2 x3 T C E : Int64} {si : Int32} (hd : d ≤ 16) :
    b_X8_doActions_83 rc r39 74 x1 x2 x3 (nI t) (nI d) si (nI s) (sT h T C E) = (rc 74 T C E (nI (d + 1)) (st_i (sT h T C E) 97 d (nI t))).bind (fun h8 => r39 74 x1 x2 x3 (nI t) (nI d) si (nI (s + 1)) h8) := by
  have F1 : SF (sT h T C E) pr co goal := F
  have hF2 := sf_97 (d := d) (v := nI t) F1
  unfold b_X8_doActions_83
  rw [sf_r3 F1, Option.bind_some, sf_al F1, Option.bind_some, if_neg (show ¬ (17 : Int32) ≤ nI d from nI_ge (b := 17) (by omega) (by omega))]
  unfold b_X8_doActions_93
  rw [sf_r3 F1, Option.bind_some, sf_si F1 (by omega), Option.bind_some]
  unfold b_X8_doActions_102 b_X8_doActions_131
  rw [sf_r0 hF2, Option.bind_some, gj_sti, mg_j0 M, Option.bind_some, Option.bind_some, gj_sti, mg_j1 M, Option.bind_some, Option.bind_some, gj_sti, mg_j2 M, Option.bind_some, sf_v hF2, Option.bind_some, nI_1, nI_1]
theorem v_ac1 {h : AH} (M : MR h K co) (F : SF h pr co goal) {rc : Nat → Int64 → Int64 → Int64 → Int32 → AH → Option AH} {fu t s d : Nat} {x : KY} {si : Int32} (hs8 : s ≤ 8) (hd : d ≤ 16) (hb : ¬ ((si >>> (nI s &&& 31)) &&& (1 : Int32)) = 0) :
    l_X8_doActions_39 rc (fu + 1) 74 x.1 x.2.1 x.2.2 (nI t) (nI d) si (nI s) h = (rc 74 (ky_ac K x (nI t) (nI s)).1 (ky_ac K x (nI t) (nI s)).2.1 (ky_ac K x (nI t) (nI s)).2.2 (nI (d + 1)) (st_i (sT h (ky_ac K x (nI t) (nI s)).1 (ky_ac K x (nI t) (nI s)).2.1 (ky_ac K x (nI t) (nI s)).2.2) 97 d (nI t))).bind (fun h8 => l_X8_doActions_39 rc fu 74 x.1 x.2.1 x.2.2 (nI t) (nI d) si (nI (s + 1)) h8) := by
  have F1 : SF (sT h x.1 x.2.1 x.2.2) pr co goal := F
  unfold ky_ac
  show b_X8_doActions_39 rc (l_X8_doActions_39 rc fu) 74 x.1 x.2.1 x.2.2 (nI t) (nI d) si (nI s) h = _
  unfold b_X8_doActions_39
  rw [if_neg (show ¬ (8 : Int32) < nI s from nI_nlt (a := 8) hs8 (by omega))]
  unfold b_X8_doActions_46
  rw [if_neg hb]
  unfold b_X8_doActions_56
  rw [sf_r0 F, Option.bind_some, mr_v M, Option.bind_some, e_set0 M, Option.bind_some, sf_r0 F1, Option.bind_some, mg_v M, Option.bind_some, e_ac M, Option.bind_some, if_neg (nI_pos (by omega))]
  exact v_ac0 M F hd
theorem v_acl (B : VB K nt goal co pr G Vs fin st le Rc) {rc : Nat → Int64 → Int64 → Int64 → Int32 → AH → Option AH} {f d : Nat} (H : cIH K nt goal G Vs fin st le Rc rc f (d + 1)) {x : KY} {t : Nat} {si : Int32} {p : Nat → Int32} (hd : d ≤ 16) (ht : t < nt) :
    ∀ (n : Nat), n ≤ 9 → (∀ c, c ∈ ky_al K x t si n (9 - n) → Rc c.2 (d + 1)) → ∀ (fu : Nat) (h : AH) (a : α), n < fu → G h a → cVI K nt goal Vs fin st le Rc h a (d + 1) → cAG p h d →
    ∃ h', l_X8_doActions_39 rc fu 74 x.1 x.2.1 x.2.2 (nI t) (nI d) si (nI (9 - n)) h = some (1, h') ∧ G h' (cFo K nt goal fin st f d p (ky_al K x t si n (9 - n)) a) ∧ cNV K nt goal Vs fin st le Rc h h' (cFo K nt goal fin st f d p (ky_al K x t si n (9 - n)) a) (d + 1) ∧ cAG p h' d := by
  obtain ⟨B1, B2, B3, B4, B5, O, B7, B8, B9, B10, B11, B12, B13, B14⟩ := B
  intro n
  induction n with
  | zero =>
    intro _ _ fu h a hf g v ag
    obtain ⟨fu, rfl⟩ : ∃ f, fu = f + 1 := ⟨fu - 1, by omega⟩
    refine ⟨h, ?_, g, cNV_eq (fun _ h => h), ag⟩
    simp only [l_X8_doActions_39, b_X8_doActions_39]
    rw [if_pos (by decide)]
    exact ok_z_1
  | succ n ih =>
    intro hn hc fu h a hf g v ag
    obtain ⟨fu, rfl⟩ : ∃ f, fu = f + 1 := ⟨fu - 1, by omega⟩
    have hs : nI (9 - (n + 1)) + 1 = nI (9 - n) := by rw [nI_1]; congr 1; omega
    have hs' : 9 - (n + 1) + 1 = 9 - n := by omega
    have hlt : ¬ (8 : Int32) < nI (9 - (n + 1)) := nI_nlt (a := 8) (by omega) (by omega)
    obtain ⟨M, F, -⟩ := B1 h a g
    unfold ky_al at hc ⊢
    rw [hs'] at hc ⊢
    by_cases hb : ((si >>> (nI (9 - (n + 1)) &&& 31)) &&& (1 : Int32)) = 0
    · rw [if_pos hb] at hc ⊢
      rw [List.nil_append]
      rw [List.nil_append] at hc
      simp only [l_X8_doActions_39, b_X8_doActions_39]
      rw [if_neg hlt]
      simp only [b_X8_doActions_46]
      rw [if_pos hb]
      simp only [b_X8_doActions_131, hs]
      exact ih (by omega) hc fu h a (by omega) g v ag
    · rw [if_neg hb] at hc ⊢
      have hrc : Rc (ky_ac K x (nI t) (nI (9 - (n + 1)))) (d + 1) := hc _ (List.mem_append_left _ List.mem_cons_self)
      obtain ⟨g1, w1⟩ := B2 h a (ky_ac K x (nI t) (nI (9 - (n + 1)))).1 (ky_ac K x (nI t) (nI (9 - (n + 1)))).2.1 (ky_ac K x (nI t) (nI (9 - (n + 1)))).2.2 g
      obtain ⟨g2, w2⟩ := B3 _ a d (nI t) (by omega) g1
      have hag : cAG (up_1 p d (nI t)) (st_i (sT h (ky_ac K x (nI t) (nI (9 - (n + 1)))).1 (ky_ac K x (nI t) (nI (9 - (n + 1)))).2.1 (ky_ac K x (nI t) (nI (9 - (n + 1)))).2.2) 97 d (nI t)) (d + 1) := by
        intro k hk
        show up_2 (hp_i h) 97 d (nI t) 97 k = _
        by_cases hkd : k = d
        · subst hkd; rw [up2_same, up_same]
        · rw [up2_k hkd, up_ne hkd]; exact ag k (by omega)
      obtain ⟨h8, r1, r2, r3, r4⟩ := H _ _ a (up_1 p d (nI t)) hrc g2 (fun y hy => v y ((w1 y).mp ((w2 y).mp hy))) hag
      have hp : pth p d t = up_1 p d (nI t) := if_pos (by omega)
      have hle : le a (cT K nt goal fin st f (ky_ac K x (nI t) (nI (9 - (n + 1)))) (d + 1) (up_1 p d (nI t)) a) := cT_le O _ _ _ _ _
      have hN : cNV K nt goal Vs fin st le Rc h h8 (cT K nt goal fin st f (ky_ac K x (nI t) (nI (9 - (n + 1)))) (d + 1) (up_1 p d (nI t)) a) (d + 1) := by
        intro y hy
        obtain h1 | h1 := r3 y hy
        · exact Or.inl ((w1 y).mp ((w2 y).mp h1))
        · exact Or.inr h1
      have ag8 : cAG p h8 d := fun k hk => by
        rw [r4 k (by omega), up_ne (by omega)]
      obtain ⟨h9, q1, q2, q3, q4⟩ := ih (by omega) (fun c hc' => hc c (List.mem_append_right _ hc')) fu h8 _ (by omega) r2 (cVI_nv O hle v hN) ag8
      refine ⟨h9, ?_, ?_, ?_, q4⟩
      · rw [v_ac1 M F (by omega) hd hb, r1, Option.bind_some, hs']
        exact q1
      · show G h9 (List.foldl _ a ([(t, ky_ac K x (nI t) (nI (9 - (n + 1))))] ++ ky_al K x t si n (9 - n)))
        rw [List.foldl_append]
        show G h9 (cFo K nt goal fin st f d p (ky_al K x t si n (9 - n)) (cT K nt goal fin st f (ky_ac K x (nI t) (nI (9 - (n + 1)))) (d + 1) (pth p d t) a))
        rw [hp]; exact q2
      · show cNV K nt goal Vs fin st le Rc h h9 (List.foldl _ a ([(t, ky_ac K x (nI t) (nI (9 - (n + 1))))] ++ ky_al K x t si n (9 - n))) (d + 1)
        rw [List.foldl_append]
        show cNV K nt goal Vs fin st le Rc h h9 (cFo K nt goal fin st f d p (ky_al K x t si n (9 - n)) (cT K nt goal fin st f (ky_ac K x (nI t) (nI (9 - (n + 1)))) (d + 1) (pth p d t) a)) (d + 1)
        rw [hp]
        exact cNV_tr O (cFo_le O _ _) hN q3
end
