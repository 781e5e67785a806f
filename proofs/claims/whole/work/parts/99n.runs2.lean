/-! ===== runs: a thread's turn, the loop over threads, the whole ===== -/
section
variable {h H : AH} {d s o t w f : Nat} {g F : Nat → Int32} {mo wI flag : Int32} {K : Nat → Nat → Int32} {te ow rx : Nat → Nat} {na nt sz : Nat} {V : Nat → Bool} {a : AS} {p : List Nat} {U : AH → Prop} {Q : AH → List (AS × List Nat) → Prop} {rc : Nat → Int32 → AH → Option AH} {L : List (AS × List Nat)} {r4 : Nat → Int32 → Int32 → Int32 → AH → Option AH}
theorem run_49 (P : PR F K te ow rx na nt sz V mo) (VEx : VE F K te ow rx na nt sz o s V mo U Q) (R : RUN K te ow rx na nt sz o V U Q rc f) (hrk : rka (KP K) o a + (f + 1) = 17) (hd : d + (f + 1) ≤ 17) (u : U h) (q : Q h L) (S : ST3 (KP K) V o a) (D : DR K te ow rx na nt sz o V (rowv h d) a p) (ht : t < nt) :
    ∃ h' M f', b_X11_runs_49 rc r4 102 (nI d) flag (nI t) h = r4 102 (nI d) f' (nI (t + 1)) h' ∧ U h' ∧ Q h' (L ++ M) ∧ SRw d h h' ∧ ((xa_en (KP K) V a t ∧ f' = 1) ∨ (¬ xa_en (KP K) V a t ∧ f' = flag)) ∧
      (∀ z, (∃ q, (z, q) ∈ M) ↔ xa_en (KP K) V a t ∧ ∃ w, xa_se (KP K) V o a t w ∧ LEn (KP K) V o (xa_ac (KP K) V o a t w) z) ∧ (o = 0 → M = @ite _ (xa_en (KP K) V a t) (Classical.propDecidable _) (lvp (KP K) V f (xa_ac (KP K) V 0 a t (sqw (KP K) a t)) (p ++ [t])) []) := by
  have Z := P.1
  have W := kp_wf Z
  have hna := Z.1
  have hnt := Z.2.1
  have hsz := Z.2.2.1
  have I := S.1
  have E := VEx.1 h u
  have ho2 := E.2.2.1
  unfold b_X11_runs_49
  obtain ⟨he, hc⟩ | ⟨he, hc⟩ := x_can P E (by omega) I D ht
  · rw [x_ok E, Option.bind_some, hc, Option.bind_some, if_neg n10]
    have hn : xa_nx a t < na := by have := he.2.1; rw [kp_na Z] at this; exact this
    obtain ⟨e, T, te6⟩ := D.1 t ht
    have e1 := T.2.1
    have rb := P.2.2.2.2.2.2.1 e (by omega)
    have h8 : K 8 (xa_nx a t) = nI e := by
      obtain ⟨-, c⟩ | c := te6
      · omega
      · exact c.2.2
    obtain ⟨e', op, b1, b2, b3, b4, b5, b6, b7, b8, b9, b10, b11, b12⟩ := an_f P hn
    have ee : e' = e := by rw [h8, nI_eq (by omega) (by omega)] at b2; exact b2.symm
    subst ee
    have rI := P.2.2.2.2.2.1 e' b1
    have hr := rI.2.1 (by rw [b3, show (9 : Int32) = nI 9 from rfl, nI_eq (by omega) (by omega)]; omega)
    have F0 : F (60 + 5 * rx e' + 0) = nI op := by
      have := hr.2
      rw [if_neg (by rw [b3, show (10 : Int32) = nI 10 from rfl, nI_eq (by omega) (by omega)]; omega)] at this
      rw [this, b3]
    have i0 : f_X11_instr 102 (nI (rx e')) (0 : Int32) h = some (nI op, h) := by rw [← F0]; exact x_ins (k := 0) E (by omega)
    have z0 : (0 : Int32) + nI t = nI t := by rw [ad, Nat.zero_add]
    -- one write alone can be seen
    have fin : ∀ (w : Nat) (wI : Int32), xa_se (KP K) V o a t w → (o = 1 → wI = -1) → (o ≠ 1 → wR wI w) → (o ≠ 2 ∨ ¬ (op = 0 ∨ op = 2) ∨ V (xa_ob (KP K) (xa_nx a t)) = true) → ∃ h' M f', b_X11_runs_155 rc r4 102 (nI d) 1 (nI t) 102 (nI d) (nI t) wI h = r4 102 (nI d) f' (nI (t + 1)) h' ∧ U h' ∧ Q h' (L ++ M) ∧ SRw d h h' ∧ ((xa_en (KP K) V a t ∧ f' = 1) ∨ (¬ xa_en (KP K) V a t ∧ f' = flag)) ∧
      (∀ z, (∃ q, (z, q) ∈ M) ↔ xa_en (KP K) V a t ∧ ∃ w, xa_se (KP K) V o a t w ∧ LEn (KP K) V o (xa_ac (KP K) V o a t w) z) ∧ (o = 0 → M = @ite _ (xa_en (KP K) V a t) (Classical.propDecidable _) (lvp (KP K) V f (xa_ac (KP K) V 0 a t (sqw (KP K) a t)) (p ++ [t])) []) := fun w wI hs hw1 hw2 hu => by
      obtain ⟨h2, h4, M, y1, y2, y3, y4, y5, y6, y7, y8⟩ := run_ac (wI := wI) P VEx R hrk hd u q S D ht he hs hw1 hw2
      refine ⟨h4, M, 1, ?_, y4, y5, y6, Or.inl ⟨he, rfl⟩, fun z => (y7 z).trans ⟨fun x => ⟨he, w, hs, x⟩, fun ⟨_, w', x1, x2⟩ => ?_⟩, fun x => ?_⟩
      · unfold b_X11_runs_155
        rw [x_ok E, Option.bind_some, y1, Option.bind_some, y2, Option.bind_some, y3, Option.bind_some]
        unfold b_X11_runs_265
        rw [da]
      · rw [se_uq (by rw [b8]; exact hu) ho2 hs x1]
        exact x2
      · subst x
        rw [@if_pos _ (Classical.propDecidable _) he, y8 rfl, sqw_se.mp hs]
    unfold b_X11_runs_61
    rw [x_ok E, Option.bind_some, z0, x_st E (by omega) (by omega), Option.bind_some, T.1, x_ok E, Option.bind_some, i0, Option.bind_some]
    by_cases cr : op = 0 ∨ op = 2
    · have r94 : (if nI op = 0 then b_X11_runs_94 rc r4 102 (nI d) 1 (nI t) (nI (rx e')) h else b_X11_runs_83 rc r4 102 (nI d) 1 (nI t) (nI (rx e')) h) = b_X11_runs_99 rc r4 102 (nI d) 1 (nI t) (nI (rx e')) 1 h := by
        obtain c | c := cr
        · rw [if_pos (by rw [c]; rfl)]
          rfl
        · rw [if_neg (by rw [c]; decide)]
          unfold b_X11_runs_83
          rw [x_ok E, Option.bind_some, i0, Option.bind_some, if_pos (by rw [c]; rfl)]
          rfl
      show ∃ h' M f', (if nI op = 0 then b_X11_runs_94 rc r4 102 (nI d) 1 (nI t) (nI (rx e')) h else b_X11_runs_83 rc r4 102 (nI d) 1 (nI t) (nI (rx e')) h) = _ ∧ _
      rw [r94]
      obtain ⟨r1, r2, r3⟩ := rI.2.2.1 (by rw [b3]; obtain c | c := cr <;> rw [c]; exact Or.inl rfl; exact Or.inr rfl)
      obtain ⟨-, op', a1, a2, a3, a4, a5, a6, -⟩ := Z.2.2.2.2.2.2.2.1 e' b1
      have eop : op' = op := by rw [b3, nI_eq (by omega) (by omega)] at a1; exact a1.symm
      obtain ⟨c, c6, c4⟩ := a6 (by rw [eop]; exact cr.elim Or.inl (fun x => Or.inr (Or.inr x)))
      have hob : xa_ob (KP K) (xa_nx a t) = c := by rw [b10, c4, ix_nI (by omega)]
      rw [c4] at r2
      have i2 : f_X11_instr 102 (nI (rx e')) (2 : Int32) h = some (nI c, h) := by rw [← r2]; exact x_ins (k := 2) E (by omega)
      -- the cell's last write
      have b128 : (o = 0 ∨ o = 1 ∨ V c = true) → ∃ h' M f', b_X11_runs_128 rc r4 102 (nI d) 1 (nI t) (nI (rx e')) 1 h = r4 102 (nI d) f' (nI (t + 1)) h' ∧ U h' ∧ Q h' (L ++ M) ∧ SRw d h h' ∧ ((xa_en (KP K) V a t ∧ f' = 1) ∨ (¬ xa_en (KP K) V a t ∧ f' = flag)) ∧
        (∀ z, (∃ q, (z, q) ∈ M) ↔ xa_en (KP K) V a t ∧ ∃ w, xa_se (KP K) V o a t w ∧ LEn (KP K) V o (xa_ac (KP K) V o a t w) z) ∧ (o = 0 → M = @ite _ (xa_en (KP K) V a t) (Classical.propDecidable _) (lvp (KP K) V f (xa_ac (KP K) V 0 a t (sqw (KP K) a t)) (p ++ [t])) []) := fun hv => by
        unfold b_X11_runs_128
        rw [if_neg n10]
        unfold b_X11_runs_136
        rw [x_ok E, Option.bind_some, i2, Option.bind_some, x_ok E, Option.bind_some, ad, x_st E (by omega) (by omega), Option.bind_some]
        by_cases c1 : o = 1
        · subst c1
          obtain ⟨w, hs⟩ := se_ex1 (V := V) (t := t) W I
          exact fin w _ hs (fun _ => (D.2.2.2.2.2.2 rfl).2.1 c c6) (fun x => absurd rfl x) (Or.inl (by omega))
        · have hv' : o = 0 ∨ (o = 2 ∧ V c = true) := by
            obtain x | x | x := hv
            · exact Or.inl x
            · exact absurd x c1
            · by_cases y : o = 0
              · exact Or.inl y
              · exact Or.inr ⟨o_2 ho2 c1 y, x⟩
          refine fin (as_me a c) _ ?_ (fun x => absurd x c1) (fun _ => (D.2.2.2.2.2.1 c1).1 c c6 (by obtain x | x := hv'; exact Or.inl x; exact Or.inr x.2)) ?_
          · unfold xa_se
            rw [if_pos (by rw [b8]; exact cr), hob, if_pos hv']
          · obtain x | x := hv'
            · exact Or.inl (by omega)
            · exact Or.inr (Or.inr (by rw [hob]; exact x.2))
      unfold b_X11_runs_99
      rw [x_o E, Option.bind_some]
      have oe : nI o = 2 ↔ o = 2 := nI_eq (b := 2) (by omega) (by omega)
      by_cases c2 : o = 2
      · rw [if_pos (oe.mpr c2)]
        unfold b_X11_runs_109
        rw [if_neg n10]
        unfold b_X11_runs_114
        rw [x_ok E, Option.bind_some, i2, Option.bind_some, x_ok E, Option.bind_some, x_vol (V := V) E c6 (P.2.2.2.2.2.2.2.1 c c6), Option.bind_some]
        by_cases cv : V c = true
        · rw [if_pos cv, if_neg n10]
          exact b128 (Or.inr (Or.inr cv))
        · rw [if_neg cv, if_pos rfl]
          unfold b_X11_runs_168
          obtain ⟨set, s1, s2⟩ := x_ahead P E (by omega) I S.2.1 D ht hn (by omega)
          rw [x_ok E, Option.bind_some, s1, Option.bind_some]
          obtain ⟨h', M, y1, y2, y3, y4, y5⟩ := l_179 (r4 := r4) P VEx R hrk hd S ht he c2 (by rw [b8]; exact cr) hob c6 (Bool.eq_false_iff.mpr cv) s2 (by omega) r2 (na + 1) 0 (by omega) fu_ (by show na + 1 < 200000; omega) h L u q D
          refine ⟨h', M, 1, y1, y2, y3, y4, Or.inl ⟨he, rfl⟩, fun z => (y5 z).trans ⟨fun ⟨w, _, x⟩ => ⟨he, w, x⟩, fun ⟨_, w, x⟩ => ⟨w, by omega, x⟩⟩, fun x => by omega⟩
      · rw [if_neg (fun x => c2 (oe.mp x))]
        exact b128 (by omega)
    · have r98 : (if nI op = 0 then b_X11_runs_94 rc r4 102 (nI d) 1 (nI t) (nI (rx e')) h else b_X11_runs_83 rc r4 102 (nI d) 1 (nI t) (nI (rx e')) h) = b_X11_runs_155 rc r4 102 (nI d) 1 (nI t) 102 (nI d) (nI t) (-1) h := by
        rw [if_neg (by rw [show (0 : Int32) = nI 0 from rfl, nI_eq (by omega) (by omega)]; omega)]
        unfold b_X11_runs_83
        rw [x_ok E, Option.bind_some, i0, Option.bind_some, if_neg (by show ¬ nI op = 2; rw [show (2 : Int32) = nI 2 from rfl, nI_eq (by omega) (by omega)]; omega)]
        unfold b_X11_runs_98 b_X11_runs_99
        rw [x_o E, Option.bind_some]
        unfold b_X11_runs_109 b_X11_runs_128
        rw [if_pos rfl, if_pos rfl]
        unfold b_X11_runs_154
        split <;> rfl
      show ∃ h' M f', (if nI op = 0 then b_X11_runs_94 rc r4 102 (nI d) 1 (nI t) (nI (rx e')) h else b_X11_runs_83 rc r4 102 (nI d) 1 (nI t) (nI (rx e')) h) = _ ∧ _
      rw [r98]
      exact fin 0 (-1) (by unfold xa_se; rw [if_neg (by rw [b8]; exact cr)]) (fun _ => rfl) (fun _ => Or.inl ⟨rfl, rfl⟩) (Or.inr (Or.inl cr))
  · rw [x_ok E, Option.bind_some, hc, Option.bind_some, if_pos rfl]
    refine ⟨h, [], flag, ?_, u, by rw [List.append_nil]; exact q, srw_rf, Or.inr ⟨he, rfl⟩, fun z => ⟨fun ⟨_, x⟩ => (List.not_mem_nil x).elim, fun x => absurd x.1 he⟩, fun _ => by rw [@if_neg _ (Classical.propDecidable _) he]⟩
    unfold b_X11_runs_58 b_X11_runs_265
    rw [da]
/-- a thread's turn -/
theorem run_t (P : PR F K te ow rx na nt sz V mo) (VEx : VE F K te ow rx na nt sz o s V mo U Q) (R : RUN K te ow rx na nt sz o V U Q rc f) (hrk : rka (KP K) o a + (f + 1) = 17) (hd : d + (f + 1) ≤ 17) (u : U h) (q : Q h L) (S : ST3 (KP K) V o a) (D : DR K te ow rx na nt sz o V (rowv h d) a p) (ht : t < nt) (hfl : flag = 0 ∨ flag = 1) :
    ∃ h' M f', b_X11_runs_14 rc r4 102 (nI d) flag (nI t) h = r4 102 (nI d) f' (nI (t + 1)) h' ∧ U h' ∧ Q h' (L ++ M) ∧ SRw d h h' ∧ (f' = 0 ∨ f' = 1) ∧ (f' = 0 ↔ flag = 0 ∧ ¬ xa_en (KP K) V a t ∧ ∀ m, ¬ xa_fi (KP K) a t m) ∧
      (∀ z, (∃ q, (z, q) ∈ M) ↔ (∃ m, xa_fi (KP K) a t m ∧ LEn (KP K) V o (xa_em (KP K) a m) z) ∨ (xa_en (KP K) V a t ∧ ∃ w, xa_se (KP K) V o a t w ∧ LEn (KP K) V o (xa_ac (KP K) V o a t w) z)) ∧ (o = 0 → M = @ite _ (xa_en (KP K) V a t) (Classical.propDecidable _) (lvp (KP K) V f (xa_ac (KP K) V 0 a t (sqw (KP K) a t)) (p ++ [t])) []) := by
  have Z := P.1
  have W := kp_wf Z
  have hna := Z.1
  have hnt := Z.2.1
  have I := S.1
  have E := VEx.1 h u
  have ho2 := E.2.2.1
  have oe : nI o = 1 ↔ o = 1 := nI_eq (b := 1) (by omega) (by omega)
  have one0 : ¬ (1 : Int32) = 0 := by decide
  -- nothing in the queue
  have plain : (∀ m, ¬ xa_fi (KP K) a t m) → ∃ h' M f', b_X11_runs_49 rc r4 102 (nI d) flag (nI t) h = r4 102 (nI d) f' (nI (t + 1)) h' ∧ U h' ∧ Q h' (L ++ M) ∧ SRw d h h' ∧ (f' = 0 ∨ f' = 1) ∧ (f' = 0 ↔ flag = 0 ∧ ¬ xa_en (KP K) V a t ∧ ∀ m, ¬ xa_fi (KP K) a t m) ∧
      (∀ z, (∃ q, (z, q) ∈ M) ↔ (∃ m, xa_fi (KP K) a t m ∧ LEn (KP K) V o (xa_em (KP K) a m) z) ∨ (xa_en (KP K) V a t ∧ ∃ w, xa_se (KP K) V o a t w ∧ LEn (KP K) V o (xa_ac (KP K) V o a t w) z)) ∧ (o = 0 → M = @ite _ (xa_en (KP K) V a t) (Classical.propDecidable _) (lvp (KP K) V f (xa_ac (KP K) V 0 a t (sqw (KP K) a t)) (p ++ [t])) []) := fun hno => by
    obtain ⟨h', M, f', y1, y2, y3, y4, y5, y6, y7⟩ := run_49 (r4 := r4) (flag := flag) P VEx R hrk hd u q S D ht
    refine ⟨h', M, f', y1, y2, y3, y4, ?_, ?_, fun z => (y6 z).trans ⟨Or.inr, fun x => x.elim (fun ⟨m, x, _⟩ => absurd x (hno m)) id⟩, y7⟩
    · obtain ⟨-, x⟩ | ⟨-, x⟩ := y5
      · exact Or.inr x
      · rw [x]; exact hfl
    · obtain ⟨x1, x2⟩ | ⟨x1, x2⟩ := y5
      · exact ⟨fun x => absurd (x2.symm.trans x) one0, fun x => absurd x1 x.2.1⟩
      · rw [x2]
        exact ⟨fun x => ⟨x, x1, hno⟩, fun x => x.1⟩
  unfold b_X11_runs_14
  rw [x_o E, Option.bind_some]
  by_cases c1 : o = 1
  · subst c1
    rw [if_pos (oe.mpr rfl)]
    unfold b_X11_runs_22
    rw [x_ok E, Option.bind_some, ad, x_st E (by omega) (by omega), Option.bind_some]
    have qe := qe_iff E Z I D ht
    obtain ⟨qs, q1, q2, q3, -⟩ := (D.2.2.2.2.2.2 rfl).2.2 t ht
    have len8 : qs.length ≤ 8 := q_len q2 (fun m hm => by
      have := (I.2.1 m (I.2.2.2.1 m ((q3 m).mp hm).1).1).1
      rw [kp_na Z] at this
      omega)
    by_cases c2 : rowv h d (28 + t) = 0
    · rw [if_pos (by show rowv h d (28 + t) ≤ 0; rw [c2]; decide)]
      have hq := qe.mp (fun x => x.2 c2)
      exact plain (fun m hm => hq m hm.2.1 hm.2.2.1)
    · rw [if_neg (by
        show ¬ rowv h d (28 + t) ≤ 0
        intro x
        rw [q1, show (0 : Int32) = nI 0 from rfl] at x
        have := (cmp_N (by omega) (by omega)).mp x
        exact c2 (by rw [q1, show qs.length = 0 by omega]; rfl))]
      unfold b_X11_runs_34
      obtain ⟨g', m, x1, x2, x3⟩ := x_emp P E (by omega) I D ht c2
      have I' := xa_in_em I x2
      obtain ⟨rk1, rk2⟩ := rka_em W I x2
      obtain ⟨-, X, hh, q0, hq0⟩ := S
      have S' : ST3 (KP K) V 1 (xa_em (KP K) a m) := ⟨I', xa_t_em X, fun _ t' x => hh rfl t' x, q0 ++ [(t, 10 + m)], xa_ph_snoc _ _ _ _ _ hq0 (Or.inr ⟨by show 10 ≤ 10 + m; omega, by show xa_fi (KP K) a t (10 + m - 10); rw [Nat.add_sub_cancel_left]; exact x2, by show xa_em (KP K) a (10 + m - 10) = _; rw [Nat.add_sub_cancel_left]⟩)⟩
      obtain ⟨h4, M1, y1, y2, y3, y4, y5, -⟩ := R (d + 1) (xa_em (KP K) a m) p (sR h (d + 1) g') L f (Nat.le_refl _) (by omega) (by omega) (VEx.2.1 _ _ _ u) (VEx.2.2.1 _ _ _ _ q) S' (dr_cg Z I' (fun k hk => sR_row hk) x3 (p_len (dr_s x3)))
      rw [x_ok E, Option.bind_some, x1, Option.bind_some, x_ok (sR_re E), Option.bind_some, da, y1, Option.bind_some]
      have sr := srw_s (by omega : d < d + 1) y4
      obtain ⟨h', M2, f', z1, z2, z3, z4, z5, z6, -⟩ := run_49 (r4 := r4) (flag := 1) P VEx R hrk hd y2 y3 ⟨I, X, hh, q0, hq0⟩ (ve_cg Z I D sr) ht
      have f1 : f' = 1 := z5.elim (fun x => x.2) (fun x => x.2)
      have uq : ∀ m', xa_fi (KP K) a t m' → m' = m := fun m' hm' => by
        apply Classical.byContradiction
        intro hne
        obtain h | h := Nat.lt_or_gt_of_ne hne
        · exact x2.2.2.2 m' h hm'.2.1 hm'.2.2.1
        · exact hm'.2.2.2 m h x2.2.1 x2.2.2.1
      refine ⟨h', M1 ++ M2, f', z1, z2, by rw [← List.append_assoc]; exact z3, srw_tr sr z4, Or.inr f1, ⟨fun x => absurd (f1.symm.trans x) one0, fun x => absurd x2 (x.2.2 m)⟩, fun z => ?_, fun x => by omega⟩
      constructor
      · rintro ⟨q, hq⟩
        obtain hq | hq := List.mem_append.mp hq
        · exact Or.inl ⟨m, x2, (y5 z).mp ⟨q, hq⟩⟩
        · exact Or.inr ((z6 z).mp ⟨q, hq⟩)
      · rintro (⟨m', v1, v2⟩ | v)
        · rw [uq m' v1] at v2
          obtain ⟨q, hq⟩ := (y5 z).mpr v2
          exact ⟨q, List.mem_append.mpr (Or.inl hq)⟩
        · obtain ⟨q, hq⟩ := (z6 z).mpr v
          exact ⟨q, List.mem_append.mpr (Or.inr hq)⟩
  · rw [if_neg (fun x => c1 (oe.mp x))]
    exact plain (fun m hm => c1 (I.2.2.2.1 m hm.2.1).2.2)
theorem l_r4 (P : PR F K te ow rx na nt sz V mo) (VEx : VE F K te ow rx na nt sz o s V mo U Q) (R : RUN K te ow rx na nt sz o V U Q rc f) (hrk : rka (KP K) o a + (f + 1) = 17) (hd : d + (f + 1) ≤ 17) (S : ST3 (KP K) V o a) : ∀ n i, i + n = nt → ∀ fu, n < fu → ∀ flag h L, (flag = 0 ∨ flag = 1) → U h → Q h L → DR K te ow rx na nt sz o V (rowv h d) a p →
    ∃ h' M f', l_X11_runs_4 rc fu 102 (nI d) flag (nI i) h = b_X11_runs_271 rc 102 (nI d) f' h' ∧ U h' ∧ Q h' (L ++ M) ∧ SRw d h h' ∧ (f' = 0 ↔ flag = 0 ∧ ∀ t, i ≤ t → t < nt → ¬ xa_en (KP K) V a t ∧ ∀ m, ¬ xa_fi (KP K) a t m) ∧
      (∀ z, (∃ q, (z, q) ∈ M) ↔ ∃ t, i ≤ t ∧ t < nt ∧ ((∃ m, xa_fi (KP K) a t m ∧ LEn (KP K) V o (xa_em (KP K) a m) z) ∨ (xa_en (KP K) V a t ∧ ∃ w, xa_se (KP K) V o a t w ∧ LEn (KP K) V o (xa_ac (KP K) V o a t w) z))) ∧
      (o = 0 → M = (List.range' i n).flatMap (fun t => @ite _ (xa_en (KP K) V a t) (Classical.propDecidable _) (lvp (KP K) V f (xa_ac (KP K) V 0 a t (sqw (KP K) a t)) (p ++ [t])) [])) := by
  have Z := P.1
  have hnt := Z.2.1
  have I := S.1
  intro n
  induction n with
  | zero =>
    intro i hi fu hf flag h L hfl u q D
    obtain ⟨fu, rfl⟩ : ∃ x, fu = x + 1 := ⟨fu - 1, by omega⟩
    have E := VEx.1 h u
    refine ⟨h, [], flag, ?_, u, by rw [List.append_nil]; exact q, srw_rf, ⟨fun x => ⟨x, fun t _ _ => by omega⟩, fun x => x.1⟩, fun z => ⟨fun ⟨_, x⟩ => (List.not_mem_nil x).elim, fun ⟨t, _, _, _⟩ => by omega⟩, fun _ => rfl⟩
    show b_X11_runs_4 rc (l_X11_runs_4 rc fu) 102 (nI d) flag (nI i) h = _
    unfold b_X11_runs_4
    rw [x_ok E, Option.bind_some, show f_X11_of 102 (7 : Int32) h = some (nI nt, h) by rw [← P.2.2.1]; exact x_of (k := 7) E (by omega), Option.bind_some, if_pos ((cmp_N (by omega) (by omega)).mpr (by omega))]
  | succ n ih =>
    intro i hi fu hf flag h L hfl u q D
    obtain ⟨fu, rfl⟩ : ∃ x, fu = x + 1 := ⟨fu - 1, by omega⟩
    have E := VEx.1 h u
    obtain ⟨h1, M1, f1, y1, y2, y3, y4, y5, y6, y7, y8⟩ := run_t (r4 := l_X11_runs_4 rc fu) (t := i) P VEx R hrk hd u q S D (by omega) hfl
    obtain ⟨h2, M2, f2, z1, z2, z3, z4, z5, z6, z7⟩ := ih (i + 1) (by omega) fu (by omega) f1 h1 _ y5 y2 y3 (ve_cg Z I D y4)
    refine ⟨h2, M1 ++ M2, f2, ?_, z2, by rw [← List.append_assoc]; exact z3, srw_tr y4 z4, ?_, fun z => ?_, fun ho => ?_⟩
    · show b_X11_runs_4 rc (l_X11_runs_4 rc fu) 102 (nI d) flag (nI i) h = _
      unfold b_X11_runs_4
      rw [x_ok E, Option.bind_some, show f_X11_of 102 (7 : Int32) h = some (nI nt, h) by rw [← P.2.2.1]; exact x_of (k := 7) E (by omega), Option.bind_some, if_neg (fun e => by have := (cmp_N (by omega) (by omega)).mp e; omega)]
      exact y1.trans z1
    · rw [z5, y6]
      constructor
      · rintro ⟨⟨v1, v2⟩, v3⟩
        refine ⟨v1, fun t t1 t2 => ?_⟩
        by_cases et : t = i
        · subst et; exact v2
        · exact v3 t (by omega) t2
      · rintro ⟨v1, v2⟩
        exact ⟨⟨v1, v2 i (Nat.le_refl _) (by omega)⟩, fun t t1 t2 => v2 t (by omega) t2⟩
    · constructor
      · rintro ⟨q, hq⟩
        obtain hq | hq := List.mem_append.mp hq
        · exact ⟨i, Nat.le_refl _, by omega, (y7 z).mp ⟨q, hq⟩⟩
        · obtain ⟨t, v1, v2⟩ := (z6 z).mp ⟨q, hq⟩
          exact ⟨t, by omega, v2⟩
      · rintro ⟨t, v1, v2, v3⟩
        by_cases et : t = i
        · subst et
          obtain ⟨q, hq⟩ := (y7 z).mpr v3
          exact ⟨q, List.mem_append.mpr (Or.inl hq)⟩
        · obtain ⟨q, hq⟩ := (z6 z).mpr ⟨t, by omega, v2, v3⟩
          exact ⟨q, List.mem_append.mpr (Or.inr hq)⟩
    · rw [y8 ho, z7 ho, List.range'_succ, List.flatMap_cons]
theorem x_runs (P : PR F K te ow rx na nt sz V mo) (VEx : VE F K te ow rx na nt sz o s V mo U Q) : ∀ k, RUN K te ow rx na nt sz o V U Q (f_X11_runs k) k := by
  have Z := P.1
  have W := kp_wf Z
  have hnt := Z.2.1
  intro k
  induction k with
  | zero =>
    intro d a p h L fa h1 h2
    have := rka_le (P := KP K) (o := o) (s := a)
    omega
  | succ k ih =>
    intro d a p h L fa h1 h2 h3 u q S D
    have := rka_le (P := KP K) (o := o) (s := a)
    obtain ⟨f, rfl⟩ : ∃ f, fa = f + 1 := ⟨fa - 1, by omega⟩
    have R : RUN K te ow rx na nt sz o V U Q (f_X11_runs k) f := fun d a p h L fa x1 => ih d a p h L fa (by omega)
    obtain ⟨h1', M, f', y1, y2, y3, y4, y5, y6, y7⟩ := l_r4 (p := p) P VEx R h2 h3 S nt 0 (by omega) fu_ (by show nt < 200000; omega) 0 h L (Or.inl rfl) u q D
    have E1 := VEx.1 h1' y2
    have hend : f' = 0 ↔ xa_end (KP K) V a := by
      rw [y5]
      constructor
      · rintro ⟨-, x⟩ t
        by_cases ht : t < nt
        · exact x t (by omega) ht
        · exact ⟨fun e => ht (by have := e.1; rw [kp_nt Z] at this; exact this), fun m e => ht (by have := e.1; rw [kp_nt Z] at this; exact this)⟩
      · intro x
        exact ⟨rfl, fun t _ _ => x t⟩
    have hx : f_X11_runs (k + 1) 102 (nI d) h = b_X11_runs_271 (f_X11_runs k) 102 (nI d) f' h1' := y1
    rw [hx]
    unfold b_X11_runs_271
    by_cases c : f' = 0
    · rw [if_pos c]
      have he := hend.mp c
      have M0 : M = [] := by
        cases M with
        | nil => rfl
        | cons x xs =>
          obtain ⟨t, -, -, v⟩ := (y6 x.1).mp ⟨x.2, List.mem_cons_self⟩
          obtain ⟨m, v1, -⟩ | ⟨v1, -⟩ := v
          · exact absurd v1 ((he t).2 m)
          · exact absurd v1 (he t).1
      rw [M0, List.append_nil] at y3
      unfold b_X11_runs_275
      obtain ⟨h', z1, z2, z3, z4⟩ := VEx.2.2.2 h1' d a p L (by omega) y2 y3 (ve_cg Z S.1 D y4) S he
      rw [x_ok E1, Option.bind_some, z1, Option.bind_some]
      refine ⟨h', [(a, p)], rfl, z2, z3, fun d' hd k hk => ?_, fun z => ?_, fun ho => ?_⟩
      · show hp_i h' 109 (142 * d' + k) = _
        rw [z4]
        exact y4 d' hd k hk
      · rw [ls_step W S.1]
        constructor
        · rintro ⟨q', hq⟩
          rw [List.mem_singleton] at hq
          have := (Prod.mk.inj hq).1
          exact Or.inl ⟨he, this⟩
        · rintro (⟨-, rfl⟩ | ⟨t, ⟨m, v1, -⟩ | ⟨v1, -⟩⟩)
          · exact ⟨p, List.mem_singleton.mpr rfl⟩
          · exact absurd v1 ((he t).2 m)
          · exact absurd v1 (he t).1
      · show _ = @ite _ (xa_end (KP K) V a) (Classical.propDecidable _) [(a, p)] _
        rw [@if_pos _ (Classical.propDecidable _) he]
    · rw [if_neg c]
      have he : ¬ xa_end (KP K) V a := fun x => c (hend.mpr x)
      refine ⟨h1', M, rfl, y2, y3, y4, fun z => ?_, fun ho => ?_⟩
      · rw [ls_step W S.1, y6]
        constructor
        · rintro ⟨t, -, -, v⟩
          exact Or.inr ⟨t, v⟩
        · rintro (⟨v, -⟩ | ⟨t, v⟩)
          · exact absurd v he
          · have ht : t < nt := by
              obtain ⟨m, v1, -⟩ | ⟨v1, -⟩ := v
              · have := v1.1; rw [kp_nt Z] at this; exact this
              · have := v1.1; rw [kp_nt Z] at this; exact this
            exact ⟨t, by omega, ht, v⟩
      · show _ = @ite _ (xa_end (KP K) V a) (Classical.propDecidable _) [(a, p)] _
        rw [@if_neg _ (Classical.propDecidable _) he, y7 ho, kp_nt Z]
end
