/-! ===== outcomesOf of the class ===== -/
section
variable {h h' h2 : AH} {g g' : SG} {m p pr x : Nat} {d : PD} {a b t o : Nat}
theorem gc0_le {a' b' t' : Nat} (X : GC0 h g a b t) (ha : a ≤ a') (hb : b ≤ b') (ht : t ≤ t') : GC0 h g a' b' t' := by
  obtain ⟨s, gh, v, ⟨r1, r2⟩, tn, t1, t2⟩ := X
  exact ⟨s, gh, v, ⟨by omega, by omega⟩, tn, by omega, t2⟩
theorem gp_cp (P : GPl h g) (hp : p < 8) (hd : sD g p = some d) : CPl h (hp_r h 66 p) d := by
  rcases P.1 p hp with ⟨e1, _⟩ | ⟨d', e1, e2⟩
  · rw [hd] at e1; cases e1
  · rw [hd] at e1
    cases e1
    exact e2
theorem o_cs {P : Nat → Prop} (ho : o < 3) (h0 : P 0) (h1 : P 1) (h2 : P 2) : P o := by
  obtain z | z | z : o = 0 ∨ o = 1 ∨ o = 2 := by omega
  · rw [z]; exact h0
  · rw [z]; exact h1
  · rw [z]; exact h2
theorem c_kn (C : CPl h pr d) (ho : o < 3) : f_X5_knownOutcomes pr (nI o) h = some (hp_r h pr (7 + o), h) := by
  have ok := sr_ok C.1.1 C.1.2
  have g5 : ∀ k, g_r h pr 5 k = some (hp_r h pr k) := fun k => if_pos ok
  unfold f_X5_knownOutcomes b_X5_knownOutcomes_0 b_X5_knownOutcomes_28 b_X5_knownOutcomes_33 b_X5_knownOutcomes_38
  refine o_cs (P := fun o => (if nI o = 0 then (g_r h pr 5 7).bind fun x1 => some (x1, h) else if nI o = 1 then (g_r h pr 5 8).bind fun x1 => some (x1, h) else (g_r h pr 5 9).bind fun x1 => some (x1, h)) = some (hp_r h pr (7 + o), h)) ho ?_ ?_ ?_
  · show (if nI 0 = 0 then _ else _) = _
    rw [if_pos (by decide), g5, Option.bind_some]
  · show (if nI 1 = 0 then _ else _) = _
    rw [if_neg (by decide), if_pos (by decide), g5, Option.bind_some]
  · show (if nI 2 = 0 then _ else _) = _
    rw [if_neg (by decide), if_neg (by decide), g5, Option.bind_some]
theorem c_kp {v : Nat} (ok : ok_o h pr 5) (ho : o < 3) : f_X5_keepOutcomes pr (nI o) v h = some (st_r h pr (7 + o) v) := by
  have g5 : ∀ k, p_r h pr 5 k v = some (st_r h pr k v) := fun k => if_pos ok
  unfold f_X5_keepOutcomes b_X5_keepOutcomes_0 b_X5_keepOutcomes_28 b_X5_keepOutcomes_36 b_X5_keepOutcomes_44 b_X5_keepOutcomes_49
  refine o_cs (P := fun o => (if nI o = 0 then (p_r h pr 5 7 v).bind fun h1 => some h1 else if nI o = 1 then (p_r h pr 5 8 v).bind fun h1 => some h1 else (p_r h pr 5 9 v).bind fun h1 => some h1) = some (st_r h pr (7 + o) v)) ho ?_ ?_ ?_
  · show (if nI 0 = 0 then _ else _) = _
    rw [if_pos (by decide), g5, Option.bind_some]
  · show (if nI 1 = 0 then _ else _) = _
    rw [if_neg (by decide), if_pos (by decide), g5, Option.bind_some]
  · show (if nI 2 = 0 then _ else _) = _
    rw [if_neg (by decide), if_neg (by decide), g5, Option.bind_some]
theorem c_oof (X : GC0 h g a b t) (P : GPl h g) (R : RZ h) (hp : p < 8) (hd : sD g p = some d) (ho : o < 3) (ht : t + 2 < 2 ^ 30) : ∃ r h1, f_X10_outcomesOf 64 (hp_r h 66 p) (nI o) h = some (r, h1) ∧ GC0 h1 g (a + 1) (b + 1024) (t + 1) ∧ GPl h1 g ∧ CLF h h1 ∧ hp_r h1 66 = hp_r h 66 ∧ CR h1 r d o ∧ hp_r h1 (hp_r h 66 p) (7 + o) = r := by
  have C := gp_cp P hp hd
  have C0 := C
  obtain ⟨⟨S, k5⟩, -, -, -, ⟨-, PK⟩, q1, q2, q3, q4⟩ := C
  have okp := sr_ok S k5
  by_cases c : hp_r h (hp_r h 66 p) (7 + o) = 0
  · obtain ⟨tn, t1, H⟩ := X.2.2.2.2
    obtain ⟨h2, h3, L, x1, N, H2, F, x2, x3, x4, x5, x6, x7, x8, x9, x10, x11⟩ := r_list (oc := o) (pdk_kw PK) H (by omega) (cpl_pb C0) (by omega)
    have hp26 := S.1
    generalize hpr : hp_r h 66 p = pr at *
    obtain ⟨X2, F2, e2⟩ := gc0_fq X R S F H2 (by omega) (fun k _ => by rw [x11])
    obtain ⟨X3, F3, e3⟩ := gc0_na X2 N
    obtain ⟨X4, F4, e4⟩ := gc0_sr (x := pr) (k := 7 + o) (v := hp_n h2) X3 hp26
    have B2 := gh_lt X2.2.1
    have Q1 : SQ2 h h2 pr := sq2_of (sq_fq H F S)
    have Q2 : SQ2 h2 h3 pr := sq2_of (sq_na N (by omega))
    have Q : SQ2 h (st_r h3 pr (7 + o) (hp_n h2)) pr := sq2_tr (sq2_tr Q1 Q2) (sq2_sr hp26)
    have S2 := (Q1.2 pr S).1
    obtain ⟨n1, n2, n3, n4, n5⟩ := N
    obtain ⟨m1, m2, m3, m4, m5⟩ := n3 pr S2.2.1
    have rp : ∀ k, hp_r (st_r h3 pr (7 + o) (hp_n h2)) pr k = if k = 7 + o then hp_n h2 else hp_r h pr k := fun k => by
      by_cases z : k = 7 + o
      · rw [if_pos z, z, str_s]
      · rw [if_neg z, str_k z, m5, F.2.2.2.1.1]
    have jp : hp_j (st_r h3 pr (7 + o) (hp_n h2)) pr = hp_j h2 pr := m4
    have ip : hp_i (st_r h3 pr (7 + o) (hp_n h2)) pr = hp_i h pr := by
      show hp_i h3 pr = _
      rw [m3, F.2.2.2.1.2]
    have o90 := H2.2.2.1.choose_spec.2.2.2.2.1.1.2.1
    have o95 := H2.2.2.2.1.choose_spec.2.1.2.1
    have CRn : CR (st_r h3 pr (7 + o) (hp_n h2)) (hp_n h2) d o := by
      refine ⟨⟨by omega, by show hp_n h2 < hp_n h3; omega, ?_, ?_, by show hp_k h3 (hp_n h2) ≠ 101; rw [n4]; decide⟩, n4, L, x4, n5.symm, x2, x3, x5⟩
      · rw [str_r (by omega), (n3 90 (by omega)).2.2.2.2]; omega
      · rw [str_r (by omega), (n3 95 (by omega)).2.2.2.2]; omega
    have CCn : CC (st_r h3 pr (7 + o) (hp_n h2)) pr d := by
      refine ⟨fun o' ho' => ?_, fun z => ?_, fun z => ?_, ?_⟩
      · rw [rp]
        by_cases e : o' = o
        · rw [if_pos (by omega), e]; exact Or.inr CRn
        · rw [if_neg (by omega)]
          exact (q1 o' ho').imp id (cr_fr Q)
      · rw [rp] at z
        by_cases e : 9 = 7 + o
        · rw [if_pos e] at z; omega
        · rw [if_neg e] at z
          rw [jp, x7 (by omega)]
          exact q2 z
      · rw [rp] at z
        rw [jp]
        by_cases e : 9 = 7 + o
        · have o2 : o = 2 := by omega
          subst o2
          obtain ⟨z2, z3, z4⟩ := q2 c
          intro i j hi hj
          obtain ⟨y1, y2, y3⟩ := x8 rfl i j hi hj
          rw [z2, z3, z4] at *
          have f0 : ∀ k, ¬ fd 0 k 1 = 1 := fun k => by rw [fd_0]; decide
          exact ⟨y1.trans ⟨fun w => w.resolve_left (f0 _), Or.inr⟩, y2.trans ⟨fun w => w.resolve_left (f0 _), Or.inr⟩, y3.trans ⟨fun w => w.resolve_left (f0 _), Or.inr⟩⟩
        · rw [if_neg e] at z
          rw [x7 (by omega)]
          exact q3 z
      · rw [ip, jp, x6 5 (by omega) (by omega) (by omega)]
        exact q4
    have CPn : CPl (st_r h3 pr (7 + o) (hp_n h2)) pr d := cpl_self Q k5 C0 (by rw [rp, if_neg (by omega)]) (by rw [rp, if_neg (by omega)]) CCn
    refine ⟨hp_n h2, st_r h3 pr (7 + o) (hp_n h2), ?_, gc0_le X4 (by omega) (by omega) (Nat.le_refl _), ?_, clf_tr F2 (clf_tr F3 F4), by rw [e4, e3, e2], CRn, by rw [rp, if_pos rfl]⟩
    · obtain ⟨o64, -, -, -, -, -, r5, -⟩ := X.2.1.1
      have o74 := H.1.1
      unfold f_X10_outcomesOf b_X10_outcomesOf_0
      rw [show ok_v h pr 5 = some () from if_pos okp, Option.bind_some, c_kn C0 ho, Option.bind_some, if_pos c]
      unfold b_X10_outcomesOf_12
      rw [show g_r h 64 10 5 = some 74 from (if_pos o64).trans (by rw [r5]), Option.bind_some, show ok_v h 74 8 = some () from if_pos o74, Option.bind_some, x1, Option.bind_some]
      have ok3 : ok_o h3 pr 5 := ⟨okp.1, by have := S2.2.1; omega, by rw [m1, (Q1.2 pr S).2.1]; exact k5⟩
      rw [show ok_v h3 pr 5 = some () from if_pos ok3, Option.bind_some, c_kp ok3 ho, Option.bind_some]
    · subst hpr
      exact gpl_s2 P hp hd Q (by rw [e4, e3, e2]) CPn
  · refine ⟨_, h, ?_, gc0_le X (by omega) (by omega) (by omega), P, clf_rf, rfl, (q1 o ho).resolve_left c, rfl⟩
    unfold f_X10_outcomesOf b_X10_outcomesOf_0
    rw [show ok_v h (hp_r h 66 p) 5 = some () from if_pos okp, Option.bind_some, c_kn C0 ho, Option.bind_some, if_neg c]
    rfl
end
