/-! ===== what the lists of entries, actions and threads hold to ===== -/
/-- entry e's place in the lists; cl: the threads that are closed -/
def ES (cl nt : Nat) (SL : List Nat) (E : List Ent) (e : Nat) (x : Ent) : Prop :=
  (en_te x < nt ∧ en_te x ≤ cl ∧ SL.getD (en_te x) 0 ≤ e) ∧ (en_te x < cl → en_op x ≠ 10 → e + 1 < E.length ∧ en_te (E.getD (e + 1) dE) = en_te x) ∧
  (en_te x = cl → en_op x ≠ 10 ∧ (e + 1 < E.length → en_te (E.getD (e + 1) dE) = cl)) ∧ (en_op x = 10 → ∀ e', e < e' → e' < E.length → en_te (E.getD e' dE) ≠ en_te x) ∧
  (en_op x = 7 ∨ en_op x = 8 → ∀ y, en_jp x = some y → en_jq x = some y ∧ e < y ∧ y < E.length ∧ en_te (E.getD y dE) = en_te x)
/-- entry e's fields -/
def FX (AL : List Act) (ow kd : Nat → Int32) (dn : Int32) (e : Nat) (x : Ent) : Prop :=
  en_op x ≤ 10 ∧ (en_op x ≤ 5 → ∃ m, m < AL.length ∧ en_nu x = nI m ∧ (AL.getD m dA).2.2.2.2 = e) ∧ (6 ≤ en_op x → en_nu x = -1) ∧
  (en_op x = 0 ∨ en_op x = 1 ∨ en_op x = 2 → ∃ c, c < 6 ∧ en_ob x = nI c ∧ (en_op x = 2 → kd c = 2)) ∧ (en_op x = 3 ∨ en_op x = 4 → ∃ m, m < 2 ∧ en_ob x = nI m) ∧
  (en_op x = 0 ∨ en_op x = 2 ∨ en_op x = 6 ∨ en_op x = 7 → ∃ l, l < 5 ∧ en_tl x = nI l ∧ ow l = nI (en_te x)) ∧ (en_op x = 2 → ∃ b, b < 5 ∧ en_bs x = nI b ∧ ow b = nI (en_te x)) ∧
  (en_op x = 1 ∨ en_op x = 6 → (en_bs x = -1 ∨ ∃ b, b < 5 ∧ en_bs x = nI b ∧ ow b = nI (en_te x)) ∧ (en_dg x = -1 ∨ ∃ d, d ≤ 9 ∧ en_dg x = nI d) ∧ (en_bs x = -1 → en_dg x ≠ -1)) ∧
  (en_op x = 7 → ∃ d, d ≤ 9 ∧ en_dg x = nI d) ∧ (en_op x = 5 → en_nu x = dn)
def LA (E : List Ent) (AL : List Act) : Prop :=
  (∀ m, m < AL.length → (AL.getD m dA).2.2.2.2 < E.length ∧ en_nu (E.getD (AL.getD m dA).2.2.2.2 dE) = nI m ∧ en_op (E.getD (AL.getD m dA).2.2.2.2 dE) = (AL.getD m dA).2.1 ∧ (AL.getD m dA).2.1 ≤ 5 ∧ en_te (E.getD (AL.getD m dA).2.2.2.2 dE) = (AL.getD m dA).1 ∧ en_ob (E.getD (AL.getD m dA).2.2.2.2 dE) = (AL.getD m dA).2.2.1 ∧ en_tl (E.getD (AL.getD m dA).2.2.2.2 dE) = (AL.getD m dA).2.2.2.1) ∧
  ∀ m m', m < m' → m' < AL.length → (AL.getD m dA).2.2.2.2 < (AL.getD m' dA).2.2.2.2
def LT (cl : Nat) (E : List Ent) (SL : List Nat) : Prop := ∀ t, t < SL.length → SL.getD t 0 ≤ E.length ∧ (SL.getD t 0 < E.length → en_te (E.getD (SL.getD t 0) dE) = t) ∧ (t < cl → SL.getD t 0 < E.length)
def LD (nt : Nat) (E : List Ent) (AL : List Act) (mk dn : Int32) : Prop :=
  (dn ≠ -1 → mk ≠ -1) ∧ (mk = -1 ∨ ∃ t, t < nt ∧ mk = nI t) ∧ (dn = -1 ∨ ∃ d, d < AL.length ∧ dn = nI d ∧ (AL.getD d dA).2.1 = 5 ∧ mk = nI (AL.getD d dA).1 ∧ ∀ e, e < (AL.getD d dA).2.2.2.2 → en_te (E.getD e dE) = (AL.getD d dA).1 → (en_op (E.getD e dE) = 7 ∨ en_op (E.getD e dE) = 8) → ∃ y, en_jp (E.getD e dE) = some y ∧ y ≤ (AL.getD d dA).2.2.2.2)
def LO (nt : Nat) (ow : Nat → Int32) : Prop := ∀ l, l < 5 → ow l = -1 ∨ ∃ t, t < nt ∧ ow l = nI t
def LV (cl : Nat) (E : List Ent) (AL : List Act) (SL : List Nat) (ow : Nat → Int32) (mk dn : Int32) (kd : Nat → Int32) : Prop :=
  (∀ e, e < E.length → ES cl SL.length SL E e (E.getD e dE) ∧ FX AL ow kd dn e (E.getD e dE)) ∧ LA E AL ∧ LT cl E SL ∧ LD SL.length E AL mk dn ∧ LO SL.length ow
theorem fx_up {AL AL' : List Act} {ow ow' kd : Nat → Int32} {dn dn' : Int32} {e : Nat} {x : Ent} (h : FX AL ow kd dn e x) (hl : AL.length ≤ AL'.length) (ht : en_te x < 4) (h8 : AL.length ≤ 8) (hA : ∀ m, m < AL.length → AL'.getD m dA = AL.getD m dA) (ho : ∀ l, l < 5 → ow l ≠ -1 → ow' l = ow l) (hd : dn' = dn ∨ dn = -1) : FX AL' ow' kd dn' e x := by
  obtain ⟨a, b, c, d, f, g, i, k, l, m⟩ := h
  have ho' : ∀ b, b < 5 → ow b = nI (en_te x) → ow' b = nI (en_te x) := fun b hb e1 => by
    rw [ho b hb (by rw [e1]; exact nI_ne1 (by omega)), e1]
  refine ⟨a, fun o => ?_, c, d, f, fun o => ?_, fun o => ?_, fun o => ⟨?_, (k o).2⟩, l, fun o => ?_⟩
  · obtain ⟨m, m1, m2, m3⟩ := b o
    exact ⟨m, by omega, m2, by rw [hA m m1]; exact m3⟩
  · obtain ⟨l, l1, l2, l3⟩ := g o
    exact ⟨l, l1, l2, ho' l l1 l3⟩
  · obtain ⟨l, l1, l2, l3⟩ := i o
    exact ⟨l, l1, l2, ho' l l1 l3⟩
  · obtain e1 | ⟨l, l1, l2, l3⟩ := (k o).1
    · exact Or.inl e1
    · exact Or.inr ⟨l, l1, l2, ho' l l1 l3⟩
  · obtain e1 | e1 := hd
    · rw [e1]; exact m o
    · obtain ⟨m', m1, m2, m3⟩ := b (by omega)
      have := m o
      rw [m2, e1] at this
      exact absurd this (nI_ne1 (by omega))
theorem es_a {cl nt : Nat} {SL : List Nat} {E : List Ent} {e : Nat} {x x' : Ent} (h : ES cl nt SL E e x) (he : e < E.length) (ht : en_te x' = cl) : ES cl nt SL (E ++ [x']) e x := by
  obtain ⟨a, b, c, d, f⟩ := h
  have g : ∀ i, i < E.length → (E ++ [x']).getD i dE = E.getD i dE := fun i hi => gd_l hi
  refine ⟨a, fun o p => ?_, fun o => ⟨(c o).1, fun p => ?_⟩, fun o e' h1 h2 => ?_, fun o y hy => ?_⟩
  · obtain ⟨q1, q2⟩ := b o p
    rw [ln_a, g _ q1]
    exact ⟨by omega, q2⟩
  · rw [ln_a] at p
    by_cases q : e + 1 = E.length
    · rw [q, gd_e, ht]
    · rw [g _ (by omega)]; exact (c o).2 (by omega)
  · rw [ln_a] at h2
    by_cases q : e' = E.length
    · rw [q, gd_e, ht]
      intro z
      exact (c z.symm).1 o
    · rw [g _ (by omega)]; exact d o e' h1 (by omega)
  · obtain ⟨q1, q2, q3, q4⟩ := f o y hy
    rw [ln_a, g _ q3]
    exact ⟨q1, q2, by omega, q4⟩
section
variable {cl : Nat} {E : List Ent} {AL AL' : List Act} {SL : List Nat} {ow ow' kd : Nat → Int32} {mk dn mk' dn' : Int32} {x : Ent}
theorem lv_gen (V : LV cl E AL SL ow mk dn kd) (hc : SL.length = cl + 1) (h4 : SL.length ≤ 4) (h8 : AL.length ≤ 8) (ht : en_te x = cl) (h10 : en_op x ≠ 10) (hj : en_jp x = none)
    (hl : AL.length ≤ AL'.length) (hA : ∀ m, m < AL.length → AL'.getD m dA = AL.getD m dA) (ho : ∀ l, l < 5 → ow l ≠ -1 → ow' l = ow l) (hd : dn' = dn ∨ dn = -1) (hF : FX AL' ow' kd dn' E.length x) (L1 : LA (E ++ [x]) AL') (L2 : LD SL.length (E ++ [x]) AL' mk' dn') (L3 : LO SL.length ow') : LV cl (E ++ [x]) AL' SL ow' mk' dn' kd := by
  obtain ⟨a, b, c, d, o⟩ := V
  have g : ∀ i, i < E.length → (E ++ [x]).getD i dE = E.getD i dE := fun i hi => gd_l hi
  refine ⟨fun e he => ?_, L1, fun t ht' => ?_, L2, L3⟩
  · rw [ln_a] at he
    by_cases q : e = E.length
    · rw [q, gd_e]
      refine ⟨⟨⟨by omega, by omega, by rw [ht]; exact (c cl (by omega)).1⟩, fun z => absurd z (by omega), fun _ => ⟨h10, fun z => absurd z (by rw [ln_a]; omega)⟩, fun z => absurd z h10, fun _ y hy => by rw [hj] at hy; cases hy⟩, hF⟩
    · rw [g _ (by omega)]
      have := (a e (by omega)).1.1.1
      exact ⟨es_a (a e (by omega)).1 (by omega) ht, fx_up (a e (by omega)).2 hl (by omega) h8 hA ho hd⟩
  · obtain ⟨q1, q2, q3⟩ := c t ht'
    rw [ln_a]
    refine ⟨by omega, fun z => ?_, fun z => by have := q3 z; omega⟩
    by_cases q : SL.getD t 0 = E.length
    · rw [q, gd_e, ht]
      by_cases w : t < cl
      · have := q3 w; omega
      · omega
    · rw [g _ (by omega)]; exact q2 (by omega)
theorem la_add (b : LA E AL) : LA (E ++ [x]) AL := by
  refine ⟨fun m hm => ?_, b.2⟩
  obtain ⟨q1, q2⟩ := b.1 m hm
  rw [gd_l q1, ln_a]
  exact ⟨by omega, q2⟩
theorem la_act (b : LA E AL) (h5 : en_op x ≤ 5) (hn : en_nu x = nI AL.length) : LA (E ++ [x]) (AL ++ [(en_te x, en_op x, en_ob x, en_tl x, E.length)]) := by
  refine ⟨fun m hm => ?_, fun m m' h1 h2 => ?_⟩
  · rw [ln_a] at hm
    by_cases q : m = AL.length
    · subst q
      rw [gd_e, gd_e, ln_a]
      exact ⟨Nat.lt_succ_self _, hn, rfl, h5, rfl, rfl, rfl⟩
    · obtain ⟨q1, q2⟩ := b.1 m (by omega)
      rw [gd_l (show m < AL.length by omega), gd_l q1, ln_a]
      exact ⟨by omega, q2⟩
  · rw [ln_a] at h2
    rw [gd_l (show m < AL.length by omega)]
    by_cases q : m' = AL.length
    · subst q
      rw [gd_e]
      exact (b.1 m h1).1
    · rw [gd_l (show m' < AL.length by omega)]
      exact b.2 m m' h1 (by omega)
theorem ld_add {nt : Nat} (b : LA E AL) (d : LD nt E AL mk dn) (hl : AL.length ≤ AL'.length) (hA : ∀ m, m < AL.length → AL'.getD m dA = AL.getD m dA) : LD nt (E ++ [x]) AL' mk dn := by
  refine ⟨d.1, d.2.1, ?_⟩
  obtain e1 | ⟨dd, d1, d2, d3, d4, d5⟩ := d.2.2
  · exact Or.inl e1
  · refine Or.inr ⟨dd, by omega, d2, ?_⟩
    have := (b.1 dd d1).1
    rw [hA dd d1]
    refine ⟨d3, d4, fun e he => ?_⟩
    rw [gd_l (show e < E.length by omega)]
    exact d5 e he
theorem ld_mk {nt t : Nat} (d : LD nt E AL mk dn) (ht : t < nt) (hm : mkL mk t = nI t) : LD nt E AL (mkL mk t) dn := by
  by_cases e : mk = -1
  · have hd : dn = -1 := by
      by_cases c : dn = -1
      · exact c
      · exact absurd e (d.1 c)
    rw [hm]
    exact ⟨fun z => absurd hd z, Or.inr ⟨t, ht, rfl⟩, Or.inl hd⟩
  · have : mkL mk t = mk := if_neg e
    rw [this]
    exact d
theorem lo_L {nt l th : Nat} (o : LO nt ow) (ht : th < nt) : LO nt (owL ow l th) := by
  intro l' hl'
  unfold owL
  split
  · by_cases e : l' = l
    · rw [e, up_same]; exact Or.inr ⟨th, ht, rfl⟩
    · rw [up_ne e]; exact o l' hl'
  · exact o l' hl'
theorem ow_L {l th : Nat} : ∀ l', l' < 5 → ow l' ≠ -1 → owL ow l th l' = ow l' := by
  intro l' hl' h
  unfold owL
  split
  · rename_i e
    by_cases e2 : l' = l
    · rw [e2] at h; exact absurd e h
    · rw [up_ne e2]
  · rfl
/-- no entry of its own: owners, maker -/
theorem lv_ow (V : LV cl E AL SL ow mk dn kd) (h4 : SL.length ≤ 4) (h8 : AL.length ≤ 8) (ho : ∀ l, l < 5 → ow l ≠ -1 → ow' l = ow l) (L3 : LO SL.length ow') (L2 : LD SL.length E AL mk' dn) : LV cl E AL SL ow' mk' dn kd := by
  obtain ⟨a, b, c, d, o⟩ := V
  refine ⟨fun e he => ⟨(a e he).1, fx_up (a e he).2 (Nat.le_refl _) (by have := (a e he).1.1.1; omega) h8 (fun _ _ => rfl) ho (Or.inl rfl)⟩, b, c, L2, L3⟩
/-- the jump of entry i is set -/
theorem lv_setj {i y : Nat} (V : LV cl E AL SL ow mk dn kd) (hi : i < E.length) (h1 : i < y) (h2 : y < E.length) (h3 : en_te (E.getD y dE) = en_te (E.getD i dE)) (hd : ∀ d, d < AL.length → dn = nI d → (AL.getD d dA).2.2.2.2 ≤ i) : LV cl (E.set i (sJ (E.getD i dE) (some y) (some y))) AL SL ow mk dn kd := by
  obtain ⟨a, b, c, d, o⟩ := V
  have ge : ∀ k, en_te ((E.set i (sJ (E.getD i dE) (some y) (some y))).getD k dE) = en_te (E.getD k dE) ∧ en_op ((E.set i (sJ (E.getD i dE) (some y) (some y))).getD k dE) = en_op (E.getD k dE) ∧ en_nu ((E.set i (sJ (E.getD i dE) (some y) (some y))).getD k dE) = en_nu (E.getD k dE) ∧ en_ob ((E.set i (sJ (E.getD i dE) (some y) (some y))).getD k dE) = en_ob (E.getD k dE) ∧ en_tl ((E.set i (sJ (E.getD i dE) (some y) (some y))).getD k dE) = en_tl (E.getD k dE) := fun k => by
    rw [set_g hi]
    by_cases q : k = i
    · rw [if_pos q, q]; exact ⟨rfl, rfl, rfl, rfl, rfl⟩
    · rw [if_neg q]; exact ⟨rfl, rfl, rfl, rfl, rfl⟩
  refine ⟨fun e he => ?_, ⟨fun m hm => ?_, b.2⟩, fun t ht => ?_, ⟨d.1, d.2.1, ?_⟩, o⟩
  · rw [List.length_set] at he
    obtain ⟨⟨s1, s2, s3, s4, s5⟩, f⟩ := a e he
    by_cases q : e = i
    · subst q
      rw [set_g hi, if_pos rfl]
      refine ⟨⟨s1, fun z w => by rw [List.length_set, (ge _).1]; exact s2 z w, fun z => by rw [List.length_set, (ge _).1]; exact s3 z, fun z e' w1 w2 => by rw [List.length_set] at w2; rw [(ge _).1]; exact s4 z e' w1 w2, fun _ y' hy' => ?_⟩, f⟩
      cases hy'
      rw [List.length_set, (ge _).1]
      exact ⟨rfl, h1, h2, h3⟩
    · rw [set_g hi, if_neg q]
      refine ⟨⟨s1, fun z w => by rw [List.length_set, (ge _).1]; exact s2 z w, fun z => by rw [List.length_set, (ge _).1]; exact s3 z, fun z e' w1 w2 => by rw [List.length_set] at w2; rw [(ge _).1]; exact s4 z e' w1 w2, fun z y' hy' => ?_⟩, f⟩
      rw [List.length_set, (ge _).1]
      exact s5 z y' hy'
  · rw [List.length_set, (ge _).1, (ge _).2.1, (ge _).2.2.1, (ge _).2.2.2.1, (ge _).2.2.2.2]
    exact b.1 m hm
  · rw [List.length_set, (ge _).1]
    exact c t ht
  · obtain e1 | ⟨dd, d1, d2, d3, d4, d5⟩ := d.2.2
    · exact Or.inl e1
    · refine Or.inr ⟨dd, d1, d2, d3, d4, fun e he => ?_⟩
      have := hd dd d1 d2
      rw [(ge _).1, (ge _).2.1, set_g hi, if_neg (by omega)]
      exact d5 e he
/-- a thread is closed -/
theorem lv_stop (V : LV cl E AL SL ow mk dn kd) (hc : SL.length = cl + 1) (h4 : SL.length ≤ 4) (h8 : AL.length ≤ 8) : LV (cl + 1) (E ++ [(10, -1, -1, -1, -1, none, none, -1, cl)]) AL SL ow mk dn kd := by
  obtain ⟨a, b, c, d, o⟩ := V
  have g : ∀ i, i < E.length → (E ++ [(10, -1, -1, -1, -1, none, none, -1, cl)]).getD i dE = E.getD i dE := fun i hi => gd_l hi
  refine ⟨fun e he => ?_, la_add b, fun t ht' => ?_, ld_add b d (Nat.le_refl _) (fun _ _ => rfl), o⟩
  · rw [ln_a] at he
    by_cases q : e = E.length
    · rw [q, gd_e]
      have z0 : (∀ k, k ≠ 10 → ¬ en_op (10, -1, -1, -1, -1, none, none, -1, cl) = k) := fun k hk z => hk z.symm
      refine ⟨⟨⟨by rw [hc]; exact Nat.lt_succ_self _, Nat.le_succ _, (c cl (by omega)).1⟩, fun _ z => absurd rfl z, fun z => absurd z (Nat.ne_of_lt (Nat.lt_succ_self cl)), fun _ e' w1 w2 => absurd w2 (by rw [ln_a]; omega), fun z => by rcases z with z | z <;> exact absurd z (z0 _ (by decide))⟩, Nat.le_refl _, fun z => absurd (show 10 ≤ 5 from z) (by decide), fun _ => rfl, fun z => by rcases z with z | z | z <;> exact absurd z (z0 _ (by decide)), fun z => by rcases z with z | z <;> exact absurd z (z0 _ (by decide)), fun z => by rcases z with z | z | z | z <;> exact absurd z (z0 _ (by decide)), fun z => absurd z (z0 _ (by decide)), fun z => by rcases z with z | z <;> exact absurd z (z0 _ (by decide)), fun z => absurd z (z0 _ (by decide)), fun z => absurd z (z0 _ (by decide))⟩
    · have he' : e < E.length := by omega
      rw [g _ he']
      obtain ⟨⟨s1, s2, s3, s4, s5⟩, f⟩ := a e he'
      refine ⟨⟨⟨s1.1, by omega, s1.2.2⟩, fun z w => ?_, fun z => by omega, fun z e' w1 w2 => ?_, fun z y hy => ?_⟩, f⟩
      · rw [ln_a]
        refine ⟨by omega, ?_⟩
        by_cases q2 : e + 1 = E.length
        · rw [q2, gd_e]
          by_cases q3 : en_te (E.getD e dE) = cl
          · exact q3.symm
          · have := (s2 (by omega) w).1; omega
        · rw [g _ (by omega)]
          by_cases q3 : en_te (E.getD e dE) = cl
          · rw [(s3 q3).2 (by omega), q3]
          · exact (s2 (by omega) w).2
      · rw [ln_a] at w2
        by_cases q2 : e' = E.length
        · rw [q2, gd_e]
          intro q3
          exact (s3 q3.symm).1 z
        · rw [g _ (by omega)]; exact s4 z e' w1 (by omega)
      · obtain ⟨t1, t2, t3, t4⟩ := s5 z y hy
        rw [ln_a, g _ t3]
        exact ⟨t1, t2, by omega, t4⟩
  · obtain ⟨q1, q2, q3⟩ := c t ht'
    rw [ln_a]
    refine ⟨by omega, fun z => ?_, fun z => by omega⟩
    by_cases q : SL.getD t 0 = E.length
    · rw [q, gd_e]
      by_cases w : t < cl
      · have := q3 w; omega
      · show cl = t
        omega
    · rw [g _ (by omega)]; exact q2 (by omega)
end
