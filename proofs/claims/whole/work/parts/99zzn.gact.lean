/-! ===== action ===== -/
section
variable {h h1 H : AH} {g g' : SG} {m p : Nat} {a b c : Int32} {d : PD}
/-- the code's rows in the heap -/
theorem cpl_row {pr : Nat} (C : CPl h pr d) {i k : Nat} (hi : i < 10) (hk : k < m_len i) : g_r h (hp_r h pr 0) 0 i = some (hp_r h (hp_r h pr 0) i) ∧ l_i h (hp_r h (hp_r h pr 0) i) (nI k) = some (pR d i k) := by
  obtain ⟨-, ⟨b1, b2⟩, c, -, ⟨ek, -⟩, -⟩ := C
  obtain ⟨c1, c2, c3⟩ := c i hi
  refine ⟨if_pos (sr_ok b1 b2), ?_⟩
  have l64 : m_len i ≤ 64 := by
    unfold m_len
    split
    · omega
    · split <;> omega
  rw [l_iN (sr_ok c1 c2) (by omega) (by omega), ← ek]
  unfold kh
  rw [if_pos hi]
theorem s_action (G : GC h g m) (R : GR h g) : TSP Int32.toInt64 (f_L_action 64 a b c 125) (f_X11_action_ 102 a b c) h m := by
  refine tp_action G R (fun p d hp ha hd C h0 => ?_)
  have GHh := G.2.1
  have C' := C
  obtain ⟨⟨a1, a2⟩, ⟨b1, b2⟩, -, -, ⟨ek, P⟩, -⟩ := C
  have oc := sr_ok b1 b2
  obtain ⟨⟨n10', n11, n12, -⟩, he, ht, hm⟩ := P.2.1
  obtain ⟨⟨va, vb, -⟩, -, ⟨b64, b8, -⟩, -⟩ := P.1
  have g12 : g_i h (hp_r h (hp_r h 66 p) 0) 0 12 = some (nI (pA d).length) := by
    have : hp_i h (hp_r h (hp_r h 66 p) 0) 12 = pR d 10 12 := by rw [← ek]; rfl
    exact (if_pos oc).trans (by rw [this, n12])
  have cC : f_X10_action 64 (nI p) b c h = if b < 0 then b_X10_action_29 h else b_X10_action_14 b c (hp_r h (hp_r h 66 p) 0) h := by
    unfold f_X10_action b_X10_action_0
    rw [ov64 GHh, Option.bind_some, c_pa GHh hp h0, Option.bind_some, show g_r h (hp_r h 66 p) 5 0 = some (hp_r h (hp_r h 66 p) 0) from if_pos (sr_ok a1 a2), Option.bind_some]
  have fin : ∀ v, f_X10_action 64 (nI p) b c h = some (v, h) → (∀ H2, GR H2 g → hp_i H2 102 24 = nI p → b_X11_action__10 102 b c H2 = some (v, H2)) → ∃ v h1 g', f_X10_action 64 (nI p) b c h = some (v, h1) ∧ GC h1 g' (m + 1) ∧ CLF h h1 ∧ ∀ H2, GR H2 g → hp_i H2 102 24 = nI p → hp_i H2 102 0 = 0 → ∃ H3, b_X11_action__10 102 b c H2 = some (v, H3) ∧ GR H3 g' ∧ RLF H2 H3 ∧ hp_i H3 102 0 = 0 :=
    fun v e1 e2 => ⟨v, h, g, e1, gc_up G, clf_rf, fun H2 R2 h24 t0 => ⟨H2, e2 H2 R2 h24, R2, rlf_rf, t0⟩⟩
  have o6 : ∀ H2, GR H2 g → hp_i H2 102 24 = nI p → f_X11_of 102 (6 : Int32) H2 = some (nI (pA d).length, H2) := fun H2 R2 h24 => (r_of (k := 6) R2 hp h24 (by omega)).trans (congrArg (fun z => some (z, H2)) (r_dd R2 hp hd).1.1.1.1)
  rcases rd_cs (a := b) (M := (pA d).length) (by omega) with ⟨i, i1, rfl, e⟩ | ⟨cb, e⟩
  · have i0 : ¬ nI i < 0 := nI_pos (by omega)
    obtain ⟨q1, q2, q3, q4, q5, q6, q7⟩ := vb.1 i i1
    have k8 := (hm i i1).1
    have k9 := (hm i i1).2
    have cb : f_X10_action 64 (nI p) (nI i) c h = if c = 0 then b_X10_action_76 (nI i) (hp_r h (hp_r h 66 p) 0) h else if c = 1 then b_X10_action_84 (hp_r h (hp_r h 66 p) 0) (nI ((pA d).getD i dA).2.2.2.2) h else if c = 2 then b_X10_action_93 (hp_r h (hp_r h 66 p) 0) (nI ((pA d).getD i dA).2.2.2.2) h else if c = 3 then b_X10_action_102 (hp_r h (hp_r h 66 p) 0) (nI ((pA d).getD i dA).2.2.2.2) h else b_X10_action_111 h := by
      rw [cC, if_neg i0]
      unfold b_X10_action_14 b_X10_action_23 b_X10_action_31
      obtain ⟨r1, r2⟩ := cpl_row C' (i := 8) (k := i) (by omega) (by show i < 8; omega)
      rw [g12, Option.bind_some, if_neg (nI_ge i1 (by omega)), if_pos (show nI i < (8 : Int32) from nI_lt (b := 8) (by omega) (by omega)), r1, Option.bind_some, r2, Option.bind_some, k8, and63 (by omega)]
    have rr : ∀ H2, GR H2 g → hp_i H2 102 24 = nI p → b_X11_action__10 102 (nI i) c H2 = b_X11_action__26 102 (nI i) c H2 := fun H2 R2 h24 => by
      unfold b_X11_action__10
      rw [rz_v R2.1, Option.bind_some, o6 H2 R2 h24, Option.bind_some, e, Option.bind_some, if_neg n10]
    rcases i_cs c with cc | ⟨w, w1, rfl⟩
    · refine fin (-1) ?_ (fun H2 R2 h24 => ?_)
      · rw [cb, if_neg (fun z => by rw [z] at cc; exact absurd cc (by decide)), if_neg (fun z => by rw [z] at cc; exact absurd cc (by decide)), if_neg (fun z => by rw [z] at cc; exact absurd cc (by decide)), if_neg (fun z => by rw [z] at cc; exact absurd cc (by decide))]; rfl
      · rw [rr H2 R2 h24]
        unfold b_X11_action__26
        rw [isin_e, Option.bind_some, if_pos cc, if_pos rfl]; rfl
    · have w0 : ¬ nI w < 0 := nI_pos w1
      have tk' : ∀ k, k < 4 → (nI w = nI k ↔ w = k) := fun k hk => nI_eq w1 (by omega)
      have r35 : w < 4 → ∀ H2, GR H2 g → hp_i H2 102 24 = nI p → b_X11_action__10 102 (nI i) (nI w) H2 = some (hp_i H2 106 (900 * p + (18 + 4 * i + w)), H2) := fun h4 H2 R2 h24 => by
        rw [rr H2 R2 h24]
        unfold b_X11_action__26
        rw [isin_e, Option.bind_some, if_neg w0, if_neg (show ¬ (3 : Int32) < nI w from nI_nlt (a := 3) (by omega) (by omega)), if_neg n10]
        unfold b_X11_action__35 b_X11_action__51
        rw [rz_v R2.1, Option.bind_some, mu, ad, nI_add, r_of R2 hp h24 (by omega), Option.bind_some]
      have gm : ∀ H2, GR H2 g → hp_i H2 106 (900 * p + (18 + 4 * i + 0)) = nI ((pA d).getD i dA).1 ∧ hp_i H2 106 (900 * p + (18 + 4 * i + 1)) = nI ((pA d).getD i dA).2.1 ∧ hp_i H2 106 (900 * p + (18 + 4 * i + 2)) = ((pA d).getD i dA).2.2.1 ∧ hp_i H2 106 (900 * p + (18 + 4 * i + 3)) = ((pA d).getD i dA).2.2.2.1 := fun H2 R2 => (r_dd R2 hp hd).1.1.2.2.1 i i1
      obtain ⟨x0, x1, x2, x3, x4, x5, x6⟩ := he _ q1
      by_cases c0 : w = 0
      · subst c0
        refine fin (nI ((pA d).getD i dA).1) ?_ (fun H2 R2 h24 => by rw [r35 (by omega) H2 R2 h24, (gm H2 R2).1])
        obtain ⟨r1, r2⟩ := cpl_row C' (i := 9) (k := i) (by omega) (by show i < 8; omega)
        rw [cb, if_pos (show nI 0 = (0 : Int32) from rfl)]
        unfold b_X10_action_76
        rw [r1, Option.bind_some, r2, Option.bind_some, k9]
      · have n0 : ¬ nI w = (0 : Int32) := fun z => c0 ((tk' 0 (by omega)).mp z)
        by_cases c1 : w = 1
        · subst c1
          refine fin (nI ((pA d).getD i dA).2.1) ?_ (fun H2 R2 h24 => by rw [r35 (by omega) H2 R2 h24, (gm H2 R2).2.1])
          obtain ⟨r1, r2⟩ := cpl_row C' (i := 0) (k := ((pA d).getD i dA).2.2.2.2) (by omega) (by show _ < 64; omega)
          rw [cb, if_neg n0, if_pos (show nI 1 = (1 : Int32) from rfl)]
          unfold b_X10_action_84
          rw [r1, Option.bind_some, r2, Option.bind_some, x0, q3]
        · have n1 : ¬ nI w = (1 : Int32) := fun z => c1 ((tk' 1 (by omega)).mp z)
          by_cases c2 : w = 2
          · subst c2
            refine fin ((pA d).getD i dA).2.2.1 ?_ (fun H2 R2 h24 => by rw [r35 (by omega) H2 R2 h24, (gm H2 R2).2.2.1])
            obtain ⟨r1, r2⟩ := cpl_row C' (i := 4) (k := ((pA d).getD i dA).2.2.2.2) (by omega) (by show _ < 64; omega)
            rw [cb, if_neg n0, if_neg n1, if_pos (show nI 2 = (2 : Int32) from rfl)]
            unfold b_X10_action_93
            rw [r1, Option.bind_some, r2, Option.bind_some, x4, q6]
          · have n2 : ¬ nI w = (2 : Int32) := fun z => c2 ((tk' 2 (by omega)).mp z)
            by_cases c3 : w = 3
            · subst c3
              refine fin ((pA d).getD i dA).2.2.2.1 ?_ (fun H2 R2 h24 => by rw [r35 (by omega) H2 R2 h24, (gm H2 R2).2.2.2])
              obtain ⟨r1, r2⟩ := cpl_row C' (i := 1) (k := ((pA d).getD i dA).2.2.2.2) (by omega) (by show _ < 64; omega)
              rw [cb, if_neg n0, if_neg n1, if_neg n2, if_pos (show nI 3 = (3 : Int32) from rfl)]
              unfold b_X10_action_102
              rw [r1, Option.bind_some, r2, Option.bind_some, x1, q7]
            · have n3 : ¬ nI w = (3 : Int32) := fun z => c3 ((tk' 3 (by omega)).mp z)
              refine fin (-1) ?_ (fun H2 R2 h24 => ?_)
              · rw [cb, if_neg n0, if_neg n1, if_neg n2, if_neg n3]; rfl
              · rw [rr H2 R2 h24]
                unfold b_X11_action__26
                rw [isin_e, Option.bind_some, if_neg w0, if_pos (show (3 : Int32) < nI w from nI_lt (a := 3) (by omega) (by omega)), if_pos rfl]; rfl
  · refine fin (-1) ?_ (fun H2 R2 h24 => ?_)
    · rw [cC]
      by_cases c0 : b < 0
      · rw [if_pos c0]; rfl
      · rw [if_neg c0]
        obtain ⟨k, k1, k2, rfl⟩ := cb.resolve_left c0
        unfold b_X10_action_14
        rw [g12, Option.bind_some, if_pos (nI_le k1 k2)]; rfl
    · unfold b_X11_action__10
      rw [rz_v R2.1, Option.bind_some, o6 H2 R2 h24, Option.bind_some, e, Option.bind_some, if_pos rfl]; rfl
end
