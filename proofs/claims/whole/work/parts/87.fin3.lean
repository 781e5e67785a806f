/-! ===== the ends of runs: RACES ===== -/
def m_cel (K : Nat → Nat → Int32) (e : Nat) : Bool := decide (K 0 e = 0 ∨ K 0 e = 1 ∨ K 0 e = 2)
def m_ent (K : Nat → Nat → Int32) (i : Nat) : Nat := ix (K 8 i &&& 63)
def m_mr (K : Nat → Nat → Int32) (kd : Nat → Int32) (i j : Nat) : Bool :=
  decide (¬ K 9 i = K 9 j) && m_cel K (m_ent K i) && m_cel K (m_ent K j) && decide (K 0 (m_ent K i) = 1 ∨ K 0 (m_ent K j) = 1) && decide (K 4 (m_ent K i) = K 4 (m_ent K j)) && decide (¬ kd (ix (K 4 (m_ent K i) &&& 7)) = 1)
def m_zb (E : Int64) (a b : Nat) : Prop := lg_cmp ((us_j E (((8 : Int32) * nI a) + nI b)) &&& (1 : Int64)) (0 : Int64) = 0
def m_rc1 (K : Nat → Nat → Int32) (kd : Nat → Int32) (dn : Int32) (E : Int64) (i j : Nat) (x : Int64) : Int64 :=
  if (((dn >>> (nI i &&& 31)) &&& (dn >>> (nI j &&& 31))) &&& (1 : Int32)) = 0 then x else if m_mr K kd i j = false then x else
  if lg_cmp ((us_j E (((8 : Int32) * nI j) + nI i)) &&& (1 : Int64)) (0 : Int64) = 0 then (if lg_cmp ((us_j E (((8 : Int32) * nI i) + nI j)) &&& (1 : Int64)) (0 : Int64) = 0 then m_or x 1 (((8 : Int32) * nI i) + nI j) else x) else x
def m_ri (K : Nat → Nat → Int32) (kd : Nat → Int32) (dn : Int32) (E : Int64) (j : Nat) : Nat → Nat → Int64 → Int64
  | 0, _, x => x
  | n + 1, i, x => m_ri K kd dn E j n (i + 1) (m_rc1 K kd dn E i j x)
def m_rj (K : Nat → Nat → Int32) (kd : Nat → Int32) (dn : Int32) (E : Int64) : Nat → Nat → Int64 → Int64
  | 0, _, x => x
  | n + 1, j, x => m_rj K kd dn E n (j + 1) (m_ri K kd dn E j j 0 x)
def fnR (K : Nat → Nat → Int32) (kd : Nat → Int32) (a : Int64) (x : KY) (_ : Nat) (_ : Nat → Int32) : Int64 := m_rj K kd (m_do x.1) x.2.2 7 1 a
def oring (g : Int64 → Int64) : Prop := ∃ c, ∀ x, g x = x ||| c
theorem or_id : oring (fun x => x) := ⟨0, fun x => by rw [Int64.or_zero]⟩
theorem or_cmp {g f : Int64 → Int64} (h1 : oring g) (h2 : oring f) : oring (fun x => f (g x)) := by
  obtain ⟨c, hc⟩ := h1
  obtain ⟨d, hd⟩ := h2
  exact ⟨c ||| d, fun x => by show f (g x) = _; rw [hd, hc, Int64.or_assoc]⟩
section
variable {K : Nat → Nat → Int32} {kd : Nat → Int32} {dn : Int32} {E : Int64}
theorem or_rc1 (i j : Nat) : oring (m_rc1 K kd dn E i j) := by
  unfold m_rc1
  by_cases h1 : (((dn >>> (nI i &&& 31)) &&& (dn >>> (nI j &&& 31))) &&& (1 : Int32)) = 0
  · simp only [if_pos h1]; exact or_id
  · simp only [if_neg h1]
    by_cases h2 : m_mr K kd i j = false
    · simp only [if_pos h2]; exact or_id
    · simp only [if_neg h2]
      by_cases h3 : lg_cmp ((us_j E (((8 : Int32) * nI j) + nI i)) &&& (1 : Int64)) (0 : Int64) = 0
      · simp only [if_pos h3]
        by_cases h4 : lg_cmp ((us_j E (((8 : Int32) * nI i) + nI j)) &&& (1 : Int64)) (0 : Int64) = 0
        · simp only [if_pos h4]; exact ⟨_, fun x => rfl⟩
        · simp only [if_neg h4]; exact or_id
      · simp only [if_neg h3]; exact or_id
theorem or_ri (j : Nat) : ∀ n i, oring (m_ri K kd dn E j n i) := by
  intro n
  induction n with
  | zero => intro i; exact or_id
  | succ n ih => intro i; exact or_cmp (g := m_rc1 K kd dn E i j) (f := m_ri K kd dn E j n (i + 1)) (or_rc1 i j) (ih (i + 1))
theorem or_rj : ∀ n j, oring (m_rj K kd dn E n j) := by
  intro n
  induction n with
  | zero => intro i; exact or_id
  | succ n ih => intro j; exact or_cmp (g := m_ri K kd dn E j j 0) (f := m_rj K kd dn E n (j + 1)) (or_ri j j 0) (ih (j + 1))
end
theorem oa_R {K : Nat → Nat → Int32} {kd : Nat → Int32} : OA (fnR K kd) (fun _ => false) (fun a b => a ||| b = b) := by
  refine ⟨fun _ => Int64.or_self, fun _ _ _ h1 h2 => lo_tr h1 h2, fun a x d p => ?_, fun a a' x d p p' h => ?_, fun a a' h => by cases h⟩
  · obtain ⟨c, hc⟩ := or_rj (K := K) (kd := kd) (dn := m_do x.1) (E := x.2.2) 7 1
    unfold fnR
    rw [hc]; exact lo_le
  · obtain ⟨c, hc⟩ := or_rj (K := K) (kd := kd) (dn := m_do x.1) (E := x.2.2) 7 1
    unfold fnR at h ⊢
    rw [hc] at h ⊢
    exact lo_ab h
section
variable {h1 h : AH} {K : Nat → Nat → Int32} {te ow : Nat → Nat} {na nt sz oc co pr goal : Nat} {kd : Nat → Int32} {T C E : Int64}
theorem e_cel (M : MR h K co) {e : Int32} : f_X0_isCellAction co e (sT h T C E) = some ((if m_cel K (ix (e &&& 63)) = true then 1 else 0), sT h T C E) := by
  unfold f_X0_isCellAction b_X0_isCellAction_0
  rw [mg_co M, Option.bind_some, ml0 M (m_in_63 _), Option.bind_some]
  unfold m_cel
  by_cases c0 : K 0 (ix (e &&& 63)) = 0
  · rw [if_pos c0, decide_eq_true (Or.inl c0), if_pos rfl]; exact ok_z_1
  · rw [if_neg c0]
    unfold b_X0_isCellAction_14
    by_cases c1 : K 0 (ix (e &&& 63)) = 1
    · rw [if_pos c1, decide_eq_true (Or.inr (Or.inl c1)), if_pos rfl]; exact ok_z_1
    · rw [if_neg c1]
      unfold b_X0_isCellAction_19
      by_cases c2 : K 0 (ix (e &&& 63)) = 2
      · rw [if_pos c2, decide_eq_true (Or.inr (Or.inr c2)), if_pos rfl]; exact ok_z_1
      · rw [if_neg c2, decide_eq_false (by rintro (c | c | c); exact c0 c; exact c1 c; exact c2 c), if_neg Bool.false_ne_true]; exact ok_z_0
theorem and_6363 {x : Int32} : (x &&& 63) &&& 63 = x &&& 63 := by rw [Int32.and_assoc]; rfl
theorem e_mr (M : MR h K co) (F : SF h pr co goal) (kk : ok_o h (hp_r h pr 1) 100) (kl : hp_l h (hp_r h pr 1) = 8) (kv' : hp_i h (hp_r h pr 1) = kd) {i j : Nat} (hi : i < 8) (hj : j < 8) : f_X8_mayRace 74 (nI i) (nI j) (sT h T C E) = some ((if m_mr K kd i j = true then 1 else 0), sT h T C E) := by
  have F1 : SF (sT h T C E) pr co goal := F
  have x1 : ix (nI i &&& 7) = i := by rw [and_7 hi, ix_nI (by omega)]
  have x2 : ix (nI j &&& 7) = j := by rw [and_7 hj, ix_nI (by omega)]
  have p1 : g_r (sT h T C E) pr 5 1 = some (hp_r h pr 1) := if_pos F.2.2.2.2.2.2.2.2.1
  have lk : ∀ x : Int32, m_in x 8 → l_i (sT h T C E) (hp_r h pr 1) x = some (kd (ix x)) := fun x hx => by
    rw [← kv']
    exact if_pos ⟨kk, hx.1, by show _ < hp_l h (hp_r h pr 1); rw [kl]; exact hx.2⟩
  unfold f_X8_mayRace b_X8_mayRace_0
  rw [sf_r7 F1, Option.bind_some, sf_p0 F1, Option.bind_some, mg_co M, Option.bind_some, ml8 M (m_in_7 _), Option.bind_some, Option.bind_some, ml8 M (m_in_7 _), Option.bind_some, mg_co M, Option.bind_some, ml9 M (m_in_7 _), Option.bind_some, Option.bind_some, ml9 M (m_in_7 _), Option.bind_some, x1, x2]
  unfold m_mr m_ent
  by_cases c1 : K 9 i = K 9 j
  · rw [if_pos c1, decide_eq_false (fun e => e c1), Bool.false_and, Bool.false_and, Bool.false_and, Bool.false_and, Bool.false_and, if_neg Bool.false_ne_true]; exact ok_z_0
  · rw [if_neg c1, decide_eq_true c1, Bool.true_and]
    unfold b_X8_mayRace_57
    rw [mg_vc M, Option.bind_some, e_cel M, and_6363, Option.bind_some]
    cases c2 : m_cel K (ix (K 8 i &&& 63)) with
    | false =>
      rw [if_neg Bool.false_ne_true, if_pos rfl, Bool.false_and, Bool.false_and, Bool.false_and, Bool.false_and, if_neg Bool.false_ne_true]; exact ok_z_0
    | true =>
      rw [if_pos rfl, if_neg (show ¬ (1 : Int32) = 0 by decide), Bool.true_and]
      unfold b_X8_mayRace_66
      rw [mg_vc M, Option.bind_some, e_cel M, and_6363, Option.bind_some]
      cases c3 : m_cel K (ix (K 8 j &&& 63)) with
      | false =>
        rw [if_neg Bool.false_ne_true, if_pos rfl, Bool.false_and, Bool.false_and, Bool.false_and, if_neg Bool.false_ne_true]; exact ok_z_0
      | true =>
        rw [if_pos rfl, if_neg (show ¬ (1 : Int32) = 0 by decide), Bool.true_and]
        have s97 : b_X8_mayRace_97 74 co (K 8 i &&& 63) (K 8 j &&& 63) (sT h T C E) = some ((if (decide (K 4 (ix (K 8 i &&& 63)) = K 4 (ix (K 8 j &&& 63))) && decide (¬ kd (ix (K 4 (ix (K 8 i &&& 63)) &&& 7)) = 1)) = true then 1 else 0), sT h T C E) := by
          unfold b_X8_mayRace_97
          rw [mg_co M, Option.bind_some, ml4 M (m_in_63 _), Option.bind_some, Option.bind_some, ml4 M (m_in_63 _), Option.bind_some]
          by_cases c4 : K 4 (ix (K 8 i &&& 63)) = K 4 (ix (K 8 j &&& 63))
          · rw [if_pos c4, decide_eq_true c4, Bool.true_and]
            unfold b_X8_mayRace_114
            rw [sf_r7 F1, Option.bind_some, p1, Option.bind_some, mg_co M, Option.bind_some, ml4 M (m_in_63 _), Option.bind_some, lk _ (m_in_7 _), Option.bind_some]
            by_cases c5 : kd (ix (K 4 (ix (K 8 i &&& 63)) &&& 7)) = 1
            · rw [if_pos c5, decide_eq_false (fun e => e c5), if_neg Bool.false_ne_true]; exact ok_z_0
            · rw [if_neg c5, decide_eq_true c5, if_pos rfl]; exact ok_z_1
          · rw [if_neg c4, decide_eq_false c4, Bool.false_and, if_neg Bool.false_ne_true]; exact ok_z_0
        unfold b_X8_mayRace_75
        rw [mg_co M, Option.bind_some, ml0 M (m_in_63 _), Option.bind_some]
        by_cases c6 : K 0 (ix (K 8 i &&& 63)) = 1
        · rw [if_pos c6, s97, decide_eq_true (Or.inl c6), Bool.true_and]
        · rw [if_neg c6]
          unfold b_X8_mayRace_86
          rw [mg_co M, Option.bind_some, ml0 M (m_in_63 _), Option.bind_some]
          by_cases c7 : K 0 (ix (K 8 j &&& 63)) = 1
          · rw [if_pos c7, s97, decide_eq_true (Or.inr c7), Bool.true_and]
          · rw [if_neg c7, decide_eq_false (fun e => e.elim c6 c7), Bool.false_and, Bool.false_and, if_neg Bool.false_ne_true]; exact ok_z_0
end
