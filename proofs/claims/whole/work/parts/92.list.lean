/-! ===== listOutcomes() ===== -/
section
variable {g h : AH} {K0 : Nat → Nat → Int32} {te ow : Nat → Nat} {na nt sz oc co pr goal tn : Nat} {kd : Nat → Int32}
theorem e_cokl {k : Int32} (o1 : ok_o g pr 5) (o2 : ok_o g (hp_r g pr 1) 100) (o3 : hp_l g (hp_r g pr 1) = 8) (o4 : hp_i g (hp_r g pr 1) = kd) : ∀ (n : Nat), n ≤ 6 → ∀ (fu X : Nat), n < fu → X < 2 ^ (6 - n) → ∃ w, w < 64 ∧ l_X5_cellsOfKind_4 fu pr k (nI X) (nI (6 - n)) g = some (nI w, g) ∧ ∀ c, c < 6 → (w.testBit c = true ↔ X.testBit c = true ∨ (6 - n ≤ c ∧ kd c = k)) := by
  intro n
  induction n with
  | zero =>
    intro _ fu X hf hX
    obtain ⟨fu, rfl⟩ : ∃ f, fu = f + 1 := ⟨fu - 1, by omega⟩
    refine ⟨X, by omega, ?_, fun c hc => ⟨Or.inl, fun e => e.elim id (fun e => by omega)⟩⟩
    show b_X5_cellsOfKind_4 (l_X5_cellsOfKind_4 fu) pr k (nI X) (nI 6) g = _
    unfold b_X5_cellsOfKind_4
    rw [if_pos (by decide)]
    rfl
  | succ n ih =>
    intro hn fu X hf hX
    obtain ⟨fu, rfl⟩ : ∃ f, fu = f + 1 := ⟨fu - 1, by omega⟩
    have hs : nI (6 - (n + 1)) + 1 = nI (6 - n) := by rw [nI_1]; congr 1; omega
    have hs' : 6 - (n + 1) + 1 = 6 - n := by omega
    have hp6 : 2 ^ (6 - n) ≤ 2 ^ 6 := Nat.pow_le_pow_right (by decide) (by omega)
    have hp : 2 ^ (6 - n) = 2 * 2 ^ (6 - (n + 1)) := by rw [← hs', Nat.pow_succ, Nat.mul_comm]
    have hor : X ||| 2 ^ (6 - (n + 1)) < 2 ^ (6 - n) := Nat.or_lt_two_pow (by omega) (by omega)
    show ∃ w, _ ∧ b_X5_cellsOfKind_4 (l_X5_cellsOfKind_4 fu) pr k (nI X) (nI (6 - (n + 1))) g = _ ∧ _
    unfold b_X5_cellsOfKind_4
    rw [if_neg (show ¬ (6 : Int32) ≤ nI (6 - (n + 1)) from nI_ge (b := 6) (by omega) (by omega))]
    unfold b_X5_cellsOfKind_10
    rw [show g_r g pr 5 1 = some (hp_r g pr 1) from if_pos o1, Option.bind_some, li_row o2 (by rw [o3]; omega) (by rw [o3]; omega), Option.bind_some, o4]
    by_cases e : kd (6 - (n + 1)) = k
    · rw [if_pos e]
      unfold b_X5_cellsOfKind_20 b_X5_cellsOfKind_26
      rw [nI_one (by omega), nI_or (by omega) (by omega), hs]
      obtain ⟨w, w1, w2, w3⟩ := ih (by omega) fu (X ||| 2 ^ (6 - (n + 1))) (by omega) hor
      refine ⟨w, w1, w2, fun c hc => ?_⟩
      rw [w3 c hc, tb_or, tb_pw]
      constructor
      · rintro ((h | h) | ⟨h1, h2⟩)
        · exact Or.inl h
        · subst h; exact Or.inr ⟨Nat.le_refl _, e⟩
        · exact Or.inr ⟨by omega, h2⟩
      · rintro (h | ⟨h1, h2⟩)
        · exact Or.inl (Or.inl h)
        · by_cases e' : c = 6 - (n + 1)
          · exact Or.inl (Or.inr e'.symm)
          · exact Or.inr ⟨by omega, h2⟩
    · rw [if_neg e]
      unfold b_X5_cellsOfKind_26
      rw [hs]
      obtain ⟨w, w1, w2, w3⟩ := ih (by omega) fu X (by omega) (by omega)
      refine ⟨w, w1, w2, fun c hc => ?_⟩
      rw [w3 c hc]
      constructor
      · rintro (h | ⟨h1, h2⟩)
        · exact Or.inl h
        · exact Or.inr ⟨by omega, h2⟩
      · rintro (h | ⟨h1, h2⟩)
        · exact Or.inl h
        · by_cases e' : c = 6 - (n + 1)
          · subst e'; exact absurd h2 e
          · exact Or.inr ⟨by omega, h2⟩
theorem e_cok {k : Int32} (o1 : ok_o g pr 5) (o2 : ok_o g (hp_r g pr 1) 100) (o3 : hp_l g (hp_r g pr 1) = 8) (o4 : hp_i g (hp_r g pr 1) = kd) : ∃ w, w < 64 ∧ f_X5_cellsOfKind pr k g = some (nI w, g) ∧ ∀ c, c < 6 → (w.testBit c = true ↔ kd c = k) := by
  obtain ⟨w, w1, w2, w3⟩ := e_cokl (k := k) o1 o2 o3 o4 6 (Nat.le_refl 6) fu_ 0 (by decide) (by decide)
  refine ⟨w, w1, w2, fun c hc => ?_⟩
  rw [w3 c hc, Nat.zero_testBit]
  exact ⟨fun e => e.elim (fun e => Bool.noConfusion e) (fun e => e.2), fun e => Or.inr ⟨by omega, e⟩⟩
theorem kv_w {w : Nat} (hw : w < 2 ^ 31) {c : Nat} (hc : c < 31) {o : Int32} : kv (KX K0 g o (nI w)) c = w.testBit c := by
  have e14 : KX K0 g o (nI w) 14 1 = nI w := rfl
  unfold kv m_vo
  rw [e14]
  cases hb : w.testBit c with
  | false =>
    rw [if_pos ((nI_bit0 hw hc).mpr hb)]
    exact decide_eq_false (fun e => e rfl)
  | true =>
    rw [if_neg (fun e => by rw [(nI_bit0 hw hc).mp e] at hb; cases hb)]
    exact decide_eq_true (by decide)
/-- a new cell, the old ones as they were -/
def NA (h h' : AH) (c n : Nat) : Prop := hp_n h' = hp_n h + 1 ∧ hp_s h' = hp_s h + n ∧ (∀ r, r < hp_n h → hp_k h' r = hp_k h r ∧ hp_l h' r = hp_l h r ∧ hp_i h' r = hp_i h r ∧ hp_j h' r = hp_j h r ∧ hp_r h' r = hp_r h r) ∧ hp_k h' (hp_n h) = c ∧ hp_l h' (hp_n h) = n
theorem na_n {c n : Nat} : NA h (st_n h c n) c n := ⟨rfl, rfl, fun r hr => ⟨up_ne (by omega), up_ne (by omega), up_ne (by omega), up_ne (by omega), up_ne (by omega)⟩, up_same, up_same⟩
theorem na_ok {h' : AH} {c n r k : Nat} (N : NA h h' c n) (o : ok_o h r k) : ok_o h' r k := ⟨o.1, by rw [N.1]; have := o.2.1; omega, by rw [(N.2.2.1 r o.2.1).1]; exact o.2.2⟩
/-- Arrays.copyOf, not longer than the row -/
theorem e_cpo {r n : Nat} (ok : ok_o h r 100) (hn : n ≤ hp_l h r) (hl : hp_l h r ≤ 65536) : ∃ h', f_J7_copyOf_59c91 r (nI n) h = some (hp_n h, h') ∧ NA h h' 100 n ∧ ∀ i, i < n → hp_i h' (hp_n h) i = hp_i h r i := by
  have r64 := ok.1
  have rn := ok.2.1
  unfold f_J7_copyOf_59c91 b_J7_copyOf_59c91_0
  rw [al_row ok, Option.bind_some]
  by_cases e : n = hp_l h r
  · rw [if_pos (by rw [e])]
    unfold b_J7_copyOf_59c91_6
    have k1 : hp_k (cl_r h r) (hp_n h) = 100 := up_same
    have o1 : ok_o (cl_r h r) (hp_n h) 100 := ⟨by omega, by show hp_n h < hp_n h + 1; omega, k1⟩
    rw [show c_l h r = some (cl_r h r) from if_pos ok, Option.bind_some, show ok_v (cl_r h r) (hp_n h) 100 = some () from if_pos o1, Option.bind_some]
    refine ⟨_, rfl, ⟨rfl, by rw [e]; rfl, fun r' hr => ⟨up_ne (by omega), up_ne (by omega), up_ne (by omega), up_ne (by omega), up_ne (by omega)⟩, up_same, by rw [e]; exact up_same⟩, fun i _ => ?_⟩
    exact congrFun (up_same (f := hp_i h) (r := hp_n h) (v := hp_i h r)) i
  · rw [if_neg (by rw [nI_eq (by omega) (by omega)]; exact e)]
    unfold b_J7_copyOf_59c91_14
    have e1 : n_a h 100 (nI n) = some (st_n h 100 n) := by
      have e : n_a h 100 (nI n) = some (st_n h 100 (nI n).toNatClampNeg) := if_pos ⟨nI_pos (by omega), by rw [nI_clamp (by omega)]; omega⟩
      rw [e, nI_clamp (by omega)]
    have N := na_n (h := h) (c := 100) (n := n)
    have o2 : ok_o (st_n h 100 n) r 100 := na_ok N ok
    have l2 : hp_l (st_n h 100 n) r = hp_l h r := (N.2.2.1 r rn).2.1
    have o3 : ok_o (st_n h 100 n) (hp_n h) 100 := ⟨by omega, by show hp_n h < hp_n h + 1; omega, up_same⟩
    have l3 : hp_l (st_n h 100 n) (hp_n h) = n := up_same
    rw [e1, Option.bind_some, al_row o2, l2, Option.bind_some]
    have e2 : mn_i (nI (hp_l h r)) (nI n) = nI n := by
      unfold mn_i
      rw [if_pos (nI_lt (by omega) (by omega))]
    rw [e2]
    have e3 : cp_a (st_n h 100 n) r 0 (hp_n h) 0 (nI n) = some (cp_r (st_n h 100 n) r (0 : Int32).toNatClampNeg (hp_n h) (0 : Int32).toNatClampNeg (nI n).toNatClampNeg) := if_pos ⟨⟨o2, o3⟩, ⟨by decide, by decide, nI_pos (by omega)⟩, by rw [nI_clamp (by omega), l2, show (0 : Int32).toNatClampNeg = 0 from rfl]; omega, by rw [nI_clamp (by omega), l3, show (0 : Int32).toNatClampNeg = 0 from rfl]; omega⟩
    rw [nI_clamp (by omega), show (0 : Int32).toNatClampNeg = 0 from rfl] at e3
    rw [e3, Option.bind_some]
    refine ⟨_, rfl, ⟨rfl, rfl, fun r' hr => ⟨up_ne (by omega), up_ne (by omega), ?_, up_ne (by omega), up_ne (by omega)⟩, up_same, up_same⟩, fun i hi => ?_⟩
    · rw [cpr_ne (show r' ≠ hp_n h by omega)]; exact up_ne (by omega)
    · rw [cpr_b, pk_cpy_in (by omega) (by omega), Nat.zero_add, Nat.sub_zero]
      exact congrFun (up_ne (by omega)) i
theorem hb_na {h' : AH} {c n : Nat} (N : NA h h' c n) (H : HB h tn) : HB h' tn := by
  obtain ⟨⟨t1, t2, t3, t4, t5, t6⟩, ⟨u1, u2, u3, u4⟩, ⟨L, S⟩, ⟨M, O⟩, ⟨p1, p2⟩, ⟨w1, w2⟩, d1, d2, d3, d12, d13, d14⟩ := H
  have q := N.2.2.1
  have n98 := w1.2.1
  have r74 := (q 74 (by omega)).2.2.2.2
  have r75 := (q 75 (by omega)).2.2.2.2
  have r90 := (q 90 (by omega)).2.2.2.2
  have r95 := (q 95 (by omega)).2.2.2.2
  have i90 := (q 90 (by omega)).2.2.1
  have i95 := (q 95 (by omega)).2.2.1
  refine ⟨by rw [r74]; exact ⟨na_ok N t1, t2, t3, t4, t5, t6⟩, ?_, ⟨L, ?_⟩, ⟨M, ?_⟩, ⟨na_ok N p1, by rw [(q 97 (by omega)).2.1]; exact p2⟩, ⟨na_ok N w1, by rw [(q 98 (by omega)).2.1]; exact w2⟩, by rw [r90, r95]; exact d1, by rw [r90]; exact d2, by rw [r95]; exact d3, by rw [i90]; exact d12, d13, ?_⟩
  · rw [r75]
    exact ⟨na_ok N u1, ⟨u2.1, na_ok N u2.2.1, by rw [(q 76 (by omega)).2.1]; exact u2.2.2⟩, ⟨u3.1, na_ok N u3.2.1, by rw [(q 77 (by omega)).2.1]; exact u3.2.2⟩, ⟨u4.1, na_ok N u4.2.1, by rw [(q 78 (by omega)).2.1]; exact u4.2.2⟩⟩
  · obtain ⟨s1, s2, s3, s4, s5, s6, s7, s8, s9⟩ := S
    rw [SI0, r90]
    exact ⟨na_ok N s1, ⟨na_ok N s2.1, by rw [(q _ s2.1.2.1).2.1]; exact s2.2⟩, ⟨na_ok N s3.1, by rw [(q _ s3.1.2.1).2.1]; exact s3.2⟩, ⟨na_ok N s4.1, by rw [(q _ s4.1.2.1).2.1]; exact s4.2⟩, ⟨na_ok N s5.1, by rw [(q _ s5.1.2.1).2.1]; exact s5.2⟩, s6, s7, s8, s9⟩
  · obtain ⟨o1, o2, o3, o4, o5, o6, o7, o8⟩ := O
    have ql := q _ o2.2.1
    rw [OI, r95, ql.2.1, ql.2.2.1, i95]
    exact ⟨na_ok N o1, na_ok N o2, o3, o4, o5, o6, o7, o8⟩
  · have ql := q _ S.2.2.2.2.1.1.2.1
    unfold TB at d14 ⊢
    rw [r90, ql.2.1, ql.2.2.1]
    exact d14
/-- the cells of the search and of the row of outcomes may have changed before -/
def EQ7 (h h' : AH) : Prop := hp_n h' = hp_n h ∧ hp_s h' = hp_s h ∧ hp_k h' = hp_k h ∧ hp_l h' = hp_l h ∧ (∀ r, r ≠ 74 → r ≠ 95 → hp_i h' r = hp_i h r) ∧ (∀ r, r ≠ 74 → hp_j h' r = hp_j h r) ∧ (∀ r, r ≠ 74 → hp_r h' r = hp_r h r) ∧ (∀ k, k ≠ 6 → hp_i h' 74 k = hp_i h 74 k)
theorem fq_eq {h' h2 : AH} (e : EQ7 h h') (hp : pr ≠ 74) (hp' : pr ≠ 95) (F : FQ h' h2 pr) : FQ h h2 pr := by
  obtain ⟨e1, e2, e3, e4, e5, e6, e7, e8⟩ := e
  obtain ⟨f1, f2, f3, f4, f5, f6, f7, f8, f9⟩ := F
  have r90 := e7 90 (by decide)
  have r95 := e7 95 (by decide)
  have q : ∀ r, QW h' pr r ↔ QW h pr r := fun r => by unfold QW S4; rw [r90, r95]
  have po : pot h' = pot h := by unfold pot; rw [r90, r95, e4]
  have po8 : pot8 h' = pot8 h := by unfold pot8; rw [r90, r95, e4]
  refine ⟨by omega, fun r hr => by rw [← e3, ← e4]; exact f2 r (by omega), fun r hr nq => ?_, ⟨by rw [← e7 pr hp]; exact f4.1, by rw [← e5 pr hp hp']; exact f4.2⟩, fun k k6 k8 k11 => by rw [← e8 k k6]; exact f5 k k6 k8 k11, by rw [← r90, ← e1]; exact f6, by rw [← r95, ← e1]; exact f7, by rw [← po, ← e1]; exact f8, by rw [← po8, ← e2]; exact f9⟩
  obtain ⟨a, b, c⟩ := f3 r (by omega) (fun x => nq ((q r).mp x))
  have n74 : r ≠ 74 := fun x => nq (Or.inl x)
  have n95 : r ≠ 95 := fun x => nq (Or.inr (Or.inr (Or.inr (Or.inr (Or.inr (Or.inr (Or.inl x)))))))
  exact ⟨a.trans (e5 r n74 n95), b.trans (e6 r n74), c.trans (e7 r n74)⟩
end
