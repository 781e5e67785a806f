/-! ===== the class's scanner: begin ===== -/
section
variable {h : AH} {tp : Nat → Nat} {n : Nat} {f t : Nat → Int32}
theorem lx_sp {i a : Nat} (hn : n ≤ 1000) (hia : i ≤ a) (ha : a ≤ n) (hs : ∀ k, i ≤ k → k < a → issp (tp k) = true) : lx tp n i = lx tp n a := by
  obtain ⟨a1, a2, a3, a4⟩ := lskip_p (tp := tp) (n := n) 1001 i (by omega) (by omega)
  obtain ⟨b1, b2, b3, b4⟩ := lskip_p (tp := tp) (n := n) 1001 a ha (by omega)
  have e : lskip tp n 1001 i = lskip tp n 1001 a := by
    generalize lskip tp n 1001 i = p at a1 a2 a3 a4
    generalize lskip tp n 1001 a = p' at b1 b2 b3 b4
    have h1 : a ≤ p := by
      apply Classical.byContradiction
      intro hh
      have := hs p a1 (by omega)
      rw [a4 (by omega)] at this
      cases this
    apply Classical.byContradiction
    intro hne
    obtain hlt | hlt := Nat.lt_or_gt_of_ne hne
    · have := b3 p h1 hlt
      rw [a4 (by omega)] at this
      cases this
    · have := a3 p' (by omega) hlt
      rw [b4 (by omega)] at this
      cases this
  unfold lx
  rw [e]
theorem lx_n (hn : n ≤ 1000) : lx tp n n = (0, n, n) := by
  have : lskip tp n 1001 n = n := by
    unfold lskip
    rw [if_neg (fun x => Nat.lt_irrefl _ x.1)]
  unfold lx
  rw [this, if_pos (Nat.le_refl _)]
theorem tk_n (hn : n ≤ 1000) {j : Nat} (h0 : tk tp n j = (0, n, n)) : ∀ m, tk tp n (j + m) = (0, n, n) := by
  intro m
  induction m with
  | zero => exact h0
  | succ m ih =>
    show lx tp n (tpos tp n (j + m + 1)) = _
    have : tpos tp n (j + m + 1) = n := by
      show (lx tp n (tpos tp n (j + m))).2.2 = n
      have : lx tp n (tpos tp n (j + m)) = (0, n, n) := ih
      rw [this]
    rw [this, lx_n hn]
theorem l_beg (X : XC h n tp) : ∀ m (a : Nat), a + m = n → ∀ (a3 : Nat), a3 ≤ a → ∀ fu, m < fu → ∀ (f t : Nat → Int32) (j : Nat), f 4 = nI n → f 5 = nI a → f 7 = nI j → j ≤ a → tpos tp n j ≤ a → (∀ k, tpos tp n j ≤ k → k < a → issp (tp k) = true) → (∀ i, i < j → t i = nI (enc (tk tp n i)) ∧ (tk tp n i).2.1 < n) →
    ∃ f' t' cnt, l_X7_begin_41 fu 69 (nI a3) (sI (sI h 70 t) 69 f) = b_X7_begin_110 69 (sI (sI h 70 t') 69 f') ∧ f' 4 = nI n ∧ f' 7 = nI cnt ∧ TKs tp n cnt t' := by
  have hn := X.2.2.2.2.1
  intro m
  induction m using Nat.strongRecOn with
  | _ m ih =>
    intro a ham a3 ha3 fu hfu f t j h4 h5 h7 hja htp hsp htk
    obtain ⟨fu, rfl⟩ : ∃ x, fu = x + 1 := ⟨fu - 1, by omega⟩
    have elx : tk tp n j = lx tp n a := lx_sp hn htp (by omega) hsp
    by_cases cn : a < n
    · have head : l_X7_begin_41 (fu + 1) 69 (nI a3) (sI (sI h 70 t) 69 f) = b_X7_begin_59 (l_X7_begin_41 fu) 69 (nI a3) (sI (sI h 70 t) 69 f) := by
        show b_X7_begin_41 (l_X7_begin_41 fu) 69 (nI a3) (sI (sI h 70 t) 69 f) = _
        unfold b_X7_begin_41
        rw [if_neg (show ¬ (1000 : Int32) ≤ nI a3 from nI_ge (b := 1000) (by omega) (by omega))]
        unfold b_X7_begin_48
        rw [z_g X, Option.bind_some, h5, z_g X, Option.bind_some, h4, if_neg (nI_ge cn (by omega))]
      rw [head]
      have hb := X.2.2.2.2.2.1 a cn
      have e32 : nI (tp a) = 32 ↔ tp a = 32 := nI_eq (b := 32) (by omega) (by omega)
      have e10 : nI (tp a) = 10 ↔ tp a = 10 := nI_eq (b := 10) (by omega) (by omega)
      have isp : issp (tp a) = true ↔ tp a = 32 ∨ tp a = 10 := by unfold issp; rw [Bool.or_eq_true, decide_eq_true_iff, decide_eq_true_iff]
      have gap : issp (tp a) = true → ∃ f' t' cnt, b_X7_begin_87 (l_X7_begin_41 fu) 69 (nI a3) (sI (sI h 70 t) 69 f) = b_X7_begin_110 69 (sI (sI h 70 t') 69 f') ∧ f' 4 = nI n ∧ f' 7 = nI cnt ∧ TKs tp n cnt t' := fun hs => by
        obtain ⟨f', t', cnt, y1, y2⟩ := ih (n - (a + 1)) (by omega) (a + 1) (by omega) (a3 + 1) (by omega) fu (by omega) (up_1 f 5 (nI (a + 1))) t j (by rw [up_ne (by decide)]; exact h4) up_same (by rw [up_ne (by decide)]; exact h7) (by omega) (by omega) (fun k k1 k2 => by
          by_cases e : k = a
          · rw [e]; exact hs
          · exact hsp k k1 (by omega)) htk
        refine ⟨f', t', cnt, ?_, y2⟩
        unfold b_X7_begin_87
        rw [z_g X, Option.bind_some, h5, da, z_p X, Option.bind_some]
        unfold b_X7_begin_104
        rw [da]
        exact y1
      unfold b_X7_begin_59
      rw [z_r3 X, Option.bind_some, z_g X, Option.bind_some, h5, z_t X cn, Option.bind_some]
      by_cases c1 : tp a = 32
      · rw [if_pos (e32.mpr c1)]
        exact gap (isp.mpr (Or.inl c1))
      · rw [if_neg (fun x => c1 (e32.mp x))]
        unfold b_X7_begin_73
        rw [z_r3 X, Option.bind_some, z_g X, Option.bind_some, h5, z_t X cn, Option.bind_some]
        by_cases c2 : tp a = 10
        · rw [if_pos (e10.mpr c2)]
          exact gap (isp.mpr (Or.inr c2))
        · rw [if_neg (fun x => c2 (e10.mp x))]
          have ns : issp (tp a) = false := Bool.eq_false_iff.mpr (fun x => (isp.mp x).elim c1 c2)
          obtain ⟨f1, x1, x2, x3, x4, x5⟩ := z_tok (t := t) (cnt := j) X cn ns h4 h5 h7 (by omega)
          have lp := lx_p (tp := tp) (n := n) (i := a) hn (by omega)
          have pl : (lx tp n a).2.1 = a := by
            unfold lx
            rw [lx_at hn cn ns, if_neg (by omega)]
            split <;> rfl
          have adv : a < (lx tp n a).2.2 := by
            have := lp.2.2.2.2.1 (by rw [pl]; exact cn)
            rw [pl] at this
            exact this
          have tp1 : tpos tp n (j + 1) = (lx tp n a).2.2 := by
            show (lx tp n (tpos tp n j)).2.2 = _
            have : lx tp n (tpos tp n j) = lx tp n a := elx
            rw [this]
          obtain ⟨f', t', cnt, y1, y2⟩ := ih (n - (lx tp n a).2.2) (by omega) (lx tp n a).2.2 (by have := lp.2.2.2.1; omega) (a3 + 1) (by omega) fu (by omega) f1 (up_1 t j (nI (enc (lx tp n a)))) (j + 1) x2 x3 x4 (by omega) (by rw [tp1]; exact Nat.le_refl _) (fun k k1 k2 => by rw [tp1] at k1; omega) (fun i hi => by
            by_cases e : i = j
            · subst e
              rw [up_same, elx, pl]
              exact ⟨rfl, cn⟩
            · rw [up_ne e]
              exact htk i (by omega))
          refine ⟨f', t', cnt, ?_, y2⟩
          unfold b_X7_begin_100
          rw [z_v X, Option.bind_some, x1, Option.bind_some]
          unfold b_X7_begin_104
          rw [da]
          exact y1
    · have ean : a = n := by omega
      refine ⟨f, t, j, ?_, h4, h7, by omega, htk, fun i hi => ?_⟩
      · show b_X7_begin_41 (l_X7_begin_41 fu) 69 (nI a3) (sI (sI h 70 t) 69 f) = _
        unfold b_X7_begin_41
        split
        · rfl
        · unfold b_X7_begin_48
          rw [z_g X, Option.bind_some, h5, z_g X, Option.bind_some, h4, if_pos (by rw [ean]; exact Int32.le_refl _)]
      · obtain ⟨m', rfl⟩ : ∃ m', i = j + m' := ⟨i - j, by omega⟩
        exact tk_n hn (by rw [elx, ean, lx_n hn]) m'
/-- the tape is cut into its tokens -/
theorem z_begin (X : XC (st_r h 69 3 65) n tp) : ∃ f t cnt, f_X7_begin 69 65 (nI n) h = some (sI (sI (st_r h 69 3 65) 70 t) 69 f) ∧ TKs tp n cnt t ∧ SV tp n cnt f 0 := by
  have hn := X.2.2.2.2.1
  have okh : ok_o h 69 7 := X.1
  have ok65 : ok_o (st_r h 69 3 65) 65 100 := X.2.2.2.1.1
  generalize hH : st_r h 69 3 65 = H at X ok65
  have pr : p_r h 69 7 3 65 = some H := by rw [← hH]; exact if_pos okh
  have al : al_n H 65 = some (nI 1000) := by
    rw [al_row ok65, X.2.2.2.1.2]
  have mn : mn_i (nI n) (mn_i (nI 1000) (1000 : Int32)) = nI n := by
    have e1 : mn_i (nI 1000) (1000 : Int32) = nI 1000 := by decide
    rw [e1]
    unfold mn_i
    by_cases c : n = 1000
    · rw [c, if_neg (by decide)]
    · rw [if_neg (nI_nlt (by omega) (by omega))]
  have p1 : ∀ (k : Nat) (v : Int32) (F : Nat → Int32), p_i (sI (sI H 70 (hp_i H 70)) 69 F) 69 7 k v = some (sI (sI H 70 (hp_i H 70)) 69 (up_1 F k v)) := fun k v F => z_p X
  have eta : sI (sI H 70 (hp_i H 70)) 69 (hp_i H 69) = H := by rw [sI_eta, sI_eta]
  obtain ⟨f', t', cnt, y1, y2, y3, y4⟩ := l_beg X n 0 (by omega) 0 (Nat.le_refl _) fu_ (by unfold fu_; omega) (up_1 (up_1 (up_1 (hp_i H 69) 4 (nI n)) 5 0) 7 0) (hp_i H 70) 0 (by rw [up_ne (by decide), up_ne (by decide), up_same]) (by rw [up_ne (by decide), up_same]; rfl) (by rw [up_same]; rfl) (Nat.le_refl _) (Nat.le_refl _) (fun k k1 k2 => by omega) (fun i hi => by omega)
  obtain ⟨f2, w1, w2, w3⟩ := z_adv (j := 0) (f := up_1 f' 8 (-1)) X y4 (by rw [up_ne (by decide)]; exact y2) (by rw [up_ne (by decide)]; exact y3) (Or.inl (by rw [up_same]; decide)) (by omega)
  refine ⟨f2, t', cnt, ?_, y4, w2⟩
  unfold f_X7_begin b_X7_begin_0
  rw [pr, Option.bind_some, if_neg (by decide)]
  unfold b_X7_begin_14
  rw [al, Option.bind_some, mn]
  unfold b_X7_begin_26
  have q1 := p1 4 (nI n) (hp_i H 69)
  rw [eta] at q1
  rw [q1, Option.bind_some, p1, Option.bind_some, p1, Option.bind_some]
  have y1' : l_X7_begin_41 fu_ 69 (0 : Int32) (sI (sI H 70 (hp_i H 70)) 69 (up_1 (up_1 (up_1 (hp_i H 69) 4 (nI n)) 5 0) 7 0)) = _ := y1
  rw [y1']
  unfold b_X7_begin_110
  rw [z_p X, Option.bind_some, z_v X, Option.bind_some, w1, Option.bind_some]
end
