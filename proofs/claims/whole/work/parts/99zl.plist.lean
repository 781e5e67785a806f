/-! ===== what the lists of entries, actions and threads hold to ===== -/
/-- entry e's place in the lists; cl: the threads that are closed -/
def ES (cl nt : Nat) (SL : List Nat) (E : List Ent) (e : Nat) (x : Ent) : Prop :=
  (en_te x < nt ∧ en_te x ≤ cl ∧ SL.getD (en_te x) 0 ≤ e) ∧ (en_te x < cl → en_op x ≠ 10 → e + 1 < E.length ∧ en_te (E.getD (e + 1) dE) = en_te x) ∧
  (en_te x = cl → en_op x ≠ 10 ∧ (e + 1 < E.length → en_te (E.getD (e + 1) dE) = cl)) ∧ (en_op x = 10 → ∀ e', e < e' → e' < E.length → en_te (E.getD e' dE) ≠ en_te x) ∧
  (en_op x = 7 ∨ en_op x = 8 → ∀ y, en_jp x = some y → en_jq x = some y ∧ e < y ∧ y < E.length ∧ en_te (E.getD y dE) = en_te x)
/-- entry e's fields -/
def FX (AL : List Act) (ow kd : Nat → Int32) (dn : Int32) (e : Nat) (x : Ent) : Prop :=
  en_op x ≤ 10 ∧ (en_op x ≤ 5 → ∃ m, m < AL.length ∧ en_nu x = nI m ∧ (AL.getD m dA).2.2.2.2 = e) ∧ (6 ≤ en_op x → en_nu x = -1) ∧
  (en_op x = 0 ∨ en_op x = 1 ∨ en_op x = 2 → ∃ c, c < 6 ∧ en_ob x = nI c ∧ (en_op x = 2 → kd c = 2)) ∧ (en_op x = 3 ∨ en_op x = 4 → ∃ m, m < 2 ∧ en_ob x = nI m) ∧
  (en_op x = 0 ∨ en_op x = 2 ∨ en_op x = 6 ∨ en_op x = 7 → ∃ l, l < 5 ∧ en_tl x = nI l ∧ ow l = nI (en_te x)) ∧ (en_op x = 2 → ∃ b, b < 5 ∧ en_bs x = nI b ∧ ow b = nI (en_te x)) ∧
  (en_op x = 1 ∨ en_op x = 6 → (en_bs x = -1 ∨ ∃ b, b < 5 ∧ en_bs x = nI b ∧ ow b = nI (en_te x)) ∧ (en_dg x = -1 ∨ ∃ d, d ≤ 9 ∧ en_dg x = nI d) ∧ (en_bs x = -1 → en_dg x ≠ -1)) ∧
  (en_op x = 7 → ∃ d, d ≤ 9 ∧ en_dg x = nI d) ∧ (en_op x = 5 → en_nu x = dn)
def LA (E : List Ent) (AL : List Act) : Prop :=
  (∀ m, m < AL.length → (AL.getD m dA).2.2.2.2 < E.length ∧ en_nu (E.getD (AL.getD m dA).2.2.2.2 dE) = nI m ∧ en_op (E.getD (AL.getD m dA).2.2.2.2 dE) = (AL.getD m dA).2.1 ∧ (AL.getD m dA).2.1 ≤ 5 ∧ en_te (E.getD (AL.getD m dA).2.2.2.2 dE) = (AL.getD m dA).1 ∧ en_ob (E.getD (AL.getD m dA).2.2.2.2 dE) = (AL.getD m dA).2.2.1 ∧ en_tl (E.getD (AL.getD m dA).2.2.2.2 dE) = (AL.getD m dA).2.2.2.1) ∧
  ∀ m m', m < m' → m' < AL.length → (AL.getD m dA).2.2.2.2 < (AL.getD m' dA).2.2.2.2
def LT (cl : Nat) (E : List Ent) (SL : List Nat) : Prop := ∀ t, t < SL.length → SL.getD t 0 ≤ E.length ∧ (SL.getD t 0 < E.length → en_te (E.getD (SL.getD t 0) dE) = t) ∧ (t < cl → SL.getD t 0 < E.length)
def LD (nt : Nat) (E : List Ent) (AL : List Act) (mk dn : Int32) : Prop :=
  (dn ≠ -1 → mk ≠ -1) ∧ (mk = -1 ∨ ∃ t, t < nt ∧ mk = nI t) ∧ (dn = -1 ∨ ∃ d, d < AL.length ∧ dn = nI d ∧ (AL.getD d dA).2.1 = 5 ∧ mk = nI (AL.getD d dA).1 ∧ ∀ e, e < (AL.getD d dA).2.2.2.2 → en_te (E.getD e dE) = (AL.getD d dA).1 → (en_op (E.getD e dE) = 7 ∨ en_op (E.getD e dE) = 8) → ∃ y, en_jp (E.getD e dE) = some y ∧ y ≤ (AL.getD d dA).2.2.2.2)
def LO (nt : Nat) (ow : Nat → Int32) : Prop := ∀ l, l < 5 → ow l = -1 ∨ ∃ t, t < nt ∧ ow l = nI t
def LV (cl : Nat) (E : List Ent) (AL : List Act) (SL : List Nat) (ow : Nat → Int32) (mk dn : Int32) (kd : Nat → Int32) : Prop :=
  (∀ e, e < E.length → ES cl SL.length SL E e (E.getD e dE) ∧ FX AL ow kd dn e (E.getD e dE)) ∧ LA E AL ∧ LT cl E SL ∧ LD SL.length E AL mk dn ∧ LO SL.length ow
theorem nI_m1 {m : Nat} (h : m < 2 ^ 31) : ¬ nI m = -1 := nI_ne1 h
theorem fx_up {AL AL' : List Act} {ow ow' kd : Nat → Int32} {dn dn' : Int32} {e : Nat} {x : Ent} (h : FX AL ow kd dn e x) (hl : AL.length ≤ AL'.length) (ht : en_te x < 4) (h8 : AL.length ≤ 8) (hA : ∀ m, m < AL.length → AL'.getD m dA = AL.getD m dA) (ho : ∀ l, l < 5 → ow l ≠ -1 → ow' l = ow l) (hd : dn' = dn ∨ dn = -1) : FX AL' ow' kd dn' e x := by
  obtain ⟨a, b, c, d, f, g, i, k, l, m⟩ := h
  have ho' : ∀ b, b < 5 → ow b = nI (en_te x) → ow' b = nI (en_te x) := fun b hb e1 => by
    rw [ho b hb (by rw [e1]; exact nI_m1 (by omega)), e1]
  refine ⟨a, fun o => ?_, c, d, f, fun o => ?_, fun o => ?_, fun o => ⟨?_, (k o).2⟩, l, fun o => ?_⟩
  · obtain ⟨m, m1, m2, m3⟩ := b o
    exact ⟨m, by omega, m2, by rw [hA m m1]; exact m3⟩
  · obtain ⟨l, l1, l2, l3⟩ := g o
    exact ⟨l, l1, l2, ho' l l1 l3⟩
  · obtain ⟨l, l1, l2, l3⟩ := i o
    exact ⟨l, l1, l2, ho' l l1 l3⟩
  · obtain e1 | ⟨l, l1, l2, l3⟩ := (k o).1
    · exact Or.inl e1
    · exact Or.inr ⟨l, l1, l2, ho' l l1 l3⟩
  · obtain e1 | e1 := hd
    · rw [e1]; exact m o
    · obtain ⟨m', m1, m2, m3⟩ := b (by omega)
      have := m o
      rw [m2, e1] at this
      exact absurd this (nI_m1 (by omega))
theorem es_a {cl nt : Nat} {SL : List Nat} {E : List Ent} {e : Nat} {x x' : Ent} (h : ES cl nt SL E e x) (he : e < E.length) (ht : en_te x' = cl) : ES cl nt SL (E ++ [x']) e x := by
  obtain ⟨a, b, c, d, f⟩ := h
  have g : ∀ i, i < E.length → (E ++ [x']).getD i dE = E.getD i dE := fun i hi => gd_l hi
  refine ⟨a, fun o p => ?_, fun o => ⟨(c o).1, fun p => ?_⟩, fun o e' h1 h2 => ?_, fun o y hy => ?_⟩
  · obtain ⟨q1, q2⟩ := b o p
    rw [ln_a, g _ q1]
    exact ⟨by omega, q2⟩
  · rw [ln_a] at p
    by_cases q : e + 1 = E.length
    · rw [q, gd_e, ht]
    · rw [g _ (by omega)]; exact (c o).2 (by omega)
  · rw [ln_a] at h2
    by_cases q : e' = E.length
    · rw [q, gd_e, ht]
      intro z
      exact (c z.symm).1 o
    · rw [g _ (by omega)]; exact d o e' h1 (by omega)
  · obtain ⟨q1, q2, q3, q4⟩ := f o y hy
    rw [ln_a, g _ q3]
    exact ⟨q1, q2, by omega, q4⟩
section
variable {cl : Nat} {E : List Ent} {AL AL' : List Act} {SL : List Nat} {ow ow' kd : Nat → Int32} {mk dn mk' dn' : Int32} {x : Ent}
/-- an entry that is no action -/
theorem lv_add (V : LV cl E AL SL ow mk dn kd) (hc : cl < SL.length) (h4 : SL.length ≤ 4) (h8 : AL.length ≤ 8) (ht : en_te x = cl) (hs : SL.getD cl 0 ≤ E.length) (h10 : en_op x ≠ 10) (hj : en_jp x = none) (hF : FX AL ow kd dn E.length x) : LV cl (E ++ [x]) AL SL ow mk dn kd := by
  obtain ⟨a, b, c, d, o⟩ := V
  have g : ∀ i, i < E.length → (E ++ [x]).getD i dE = E.getD i dE := fun i hi => gd_l hi
  refine ⟨fun e he => ?_, ⟨fun m hm => ?_, b.2⟩, fun t ht' => ?_, ⟨d.1, d.2.1, ?_⟩, o⟩
  · rw [ln_a] at he
    by_cases q : e = E.length
    · rw [q, gd_e]
      refine ⟨⟨⟨by omega, by omega, by rw [ht]; exact hs⟩, fun z => absurd z (by omega), fun _ => ⟨h10, fun z => absurd z (by rw [ln_a]; omega)⟩, fun z => absurd z h10, fun _ y hy => by rw [hj] at hy; cases hy⟩, hF⟩
    · rw [g _ (by omega)]
      exact ⟨es_a (a e (by omega)).1 (by omega) ht, (a e (by omega)).2⟩
  · obtain ⟨q1, q2⟩ := b.1 m hm
    rw [g _ q1, ln_a]
    exact ⟨by omega, q2⟩
  · obtain ⟨q1, q2, q3⟩ := c t ht'
    rw [ln_a]
    refine ⟨by omega, fun z => ?_, fun z => by have := q3 z; omega⟩
    by_cases q : SL.getD t 0 = E.length
    · rw [q, gd_e, ht]
      by_cases w : t < cl
      · have := q3 w; omega
      · by_cases w2 : t = cl
        · exact w2.symm
        · exfalso; exact w2 (by
            have : t < SL.length := ht'
            sorry)
    · rw [g _ (by omega)]; exact q2 (by omega)
  · obtain e1 | ⟨dd, d1, d2, d3, d4, d5⟩ := d.2.2
    · exact Or.inl e1
    · refine Or.inr ⟨dd, d1, d2, d3, d4, fun e he => ?_⟩
      have := (b.1 dd d1).1
      rw [g _ (by omega)]
      exact d5 e he
end
