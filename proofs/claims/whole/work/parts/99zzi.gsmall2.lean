/-! ===== small calls: wish, take ===== -/
theorem i_m1 {a : Int32} (h1 : ¬ a < -1) (h2 : a < 0) : a = -1 := by
  apply Int32.toInt_inj.mp
  have e1 := Int32.lt_iff_toInt_lt.mp h2
  have e2 := Int32.le_iff_toInt_le.mp (Int32.not_lt.mp h1)
  have e3 : (-1 : Int32).toInt = -1 := by decide
  have e4 : (0 : Int32).toInt = 0 := by decide
  omega
section
variable {h : AH} {g g' : SG} {m : Nat} {A : Nat → Nat → Int32}
theorem s_wish {a b : Int32} (G : GC h g m) (R : GR h g) : STP (f_X10_wish 64 a b) (f_X11_wish 102 a b) h m := by
  obtain ⟨⟨o64, -, -, r2, -⟩, -, -, ⟨o67, l67⟩, -⟩ := G.2.1
  have eR : ∀ H, GR H g → ∃ H0, GR H0 g ∧ RLF H H0 ∧ f_X11_wish 102 a b H = (f_X11_isIn a 0 4 H0).bind (fun q2 => if q2.1 = 0 then b_X11_wish_24 q2.2 else b_X11_wish_14 102 a b q2.2) := fun H R => by
    obtain ⟨H0, e0, R0, L0, -⟩ := r_thr (v := 0) R
    refine ⟨H0, R0, L0, ?_⟩
    unfold f_X11_wish b_X11_wish_0
    rw [e0, Option.bind_some]
  have bad : (a < 0 ∨ 4 < a ∨ b < -1 ∨ 9 < b) → STP (f_X10_wish 64 a b) (f_X11_wish 102 a b) h m := fun hb => by
    refine stp_mk (g' := g) (v := 0) (h1 := h) ?_ (gc_up G) clf_rf R (fun R => ?_)
    · unfold f_X10_wish b_X10_wish_0 b_X10_wish_4 b_X10_wish_9 b_X10_wish_14
      by_cases c1 : a < 0
      · rw [if_pos c1]; exact ok_z_0
      · rw [if_neg c1]
        by_cases c2 : (5 : Int32) ≤ a
        · rw [if_pos c2]; exact ok_z_0
        · rw [if_neg c2]
          by_cases c3 : b < -1
          · rw [if_pos c3]; exact ok_z_0
          · rw [if_neg c3]
            have c4 : ¬ b ≤ 9 := by
              rcases hb with z | z | z | z
              · exact absurd z c1
              · have e1 := Int32.lt_iff_toInt_lt.mp z
                have e2 := Int32.lt_iff_toInt_lt.mp (Int32.not_le.mp c2)
                have e3 : (4 : Int32).toInt = 4 := by decide
                have e4 : (5 : Int32).toInt = 5 := by decide
                omega
              · exact absurd z c3
              · exact Int32.not_le.mpr z
            rw [if_neg c4]; exact ok_z_0
    · obtain ⟨H0, R0, L0, e0⟩ := eR h R
      refine ⟨H0, ?_, R0, L0⟩
      rw [e0, isin_e, Option.bind_some]
      unfold b_X11_wish_14
      rw [isin_e, Option.bind_some]
      by_cases c1 : a < 0
      · rw [if_pos c1, if_pos rfl]; exact ok_z_0
      · rw [if_neg c1]
        by_cases c2 : (4 : Int32) < a
        · rw [if_pos c2, if_pos rfl]; exact ok_z_0
        · rw [if_neg c2, if_neg n10]
          by_cases c3 : b < -1
          · rw [if_pos c3, if_pos rfl]; exact ok_z_0
          · rw [if_neg c3, if_pos ((hb.resolve_left c1).resolve_left c2 |>.resolve_left c3), if_pos rfl]; exact ok_z_0
  by_cases c1 : a < 0
  · exact bad (Or.inl c1)
  · by_cases c2 : (4 : Int32) < a
    · exact bad (Or.inr (Or.inl c2))
    · by_cases c3 : b < -1
      · exact bad (Or.inr (Or.inr (Or.inl c3)))
      · by_cases c4 : (9 : Int32) < b
        · exact bad (Or.inr (Or.inr (Or.inr c4)))
        · obtain ⟨k, k1, rfl⟩ := (i_cs a).resolve_left c1
          have k5 : k < 5 := by
            by_cases z : k < 5
            · exact z
            · exact absurd (show (4 : Int32) < nI k from nI_lt (a := 4) (by omega) (by omega)) c2
          have bv : b = -1 ∨ ∃ v, v ≤ 9 ∧ b = nI v := by
            rcases i_cs b with z | ⟨v, v1, rfl⟩
            · exact Or.inl (i_m1 c3 z)
            · right
              refine ⟨v, ?_, rfl⟩
              by_cases z : v ≤ 9
              · exact z
              · exact absurd (show (9 : Int32) < nI v from nI_lt (a := 9) (by omega) (by omega)) c4
          have uC : ∀ r q, ¬ (r = 67 ∧ q = k) → up_2 (hp_i h) 67 k b r q = hp_i h r q := fun r q hq => u2 (by omega)
          have uw : ∀ (A : Nat → Nat → Int32) (r : Nat), (∀ l, l < 5 → A r l = swi g l) → ∀ l, l < 5 → up_2 A r k b r l = up_1 (swi g) k b l := fun A r hA l hl => by
            unfold up_1
            by_cases q : l = k
            · rw [q, u2s, if_pos rfl]
            · rw [u2 (by omega), if_neg q]; exact hA l hl
          have V : GVA (up_2 (hp_i h) 67 k b) (sD g, stpe g, sn g, sfk g, sfp g, spt g, spm g, up_1 (swi g) k b, sws g, swm g) := by
            obtain ⟨⟨a1, a2⟩, ⟨b1, b2⟩, ⟨c1, c2⟩, d, e1, e2⟩ := G.2.2.1
            exact ⟨⟨(uC _ _ (by omega)).trans a1, fun q hq => (uC _ _ (by omega)).trans (a2 q hq)⟩, ⟨(uC _ _ (by omega)).trans b1, (uC _ _ (by omega)).trans b2⟩, ⟨(uC _ _ (by omega)).trans c1, fun k hk => (uC _ _ (by omega)).trans (c2 k hk)⟩, uw _ 67 d, (uC _ _ (by omega)).trans e1, fun k hk => (uC _ _ (by omega)).trans (e2 k hk)⟩
          obtain ⟨G', F'⟩ := gc_A (g' := (sD g, stpe g, sn g, sfk g, sfp g, spt g, spm g, up_1 (swi g) k b, sws g, swm g)) G (fun r q h1 h2 h3 h4 h5 => u2 (by omega)) ⟨G.1.1, G.1.2.1, fun l hl => by
            show up_1 (swi g) k b l = -1 ∨ _
            unfold up_1
            by_cases q : l = k
            · rw [if_pos q]; exact bv.imp id (fun ⟨v, v1, v2⟩ => ⟨v, v1, by show up_1 (swi g) k b l = _; unfold up_1; rw [if_pos q, v2]⟩)
            · rw [if_neg q]; exact (G.1.2.2.1 l hl).imp id (fun ⟨v, v1, v2⟩ => ⟨v, v1, by show up_1 (swi g) k b l = _; unfold up_1; rw [if_neg q, v2]⟩), G.1.2.2.2⟩ V rfl
          refine stp_mk (v := 1) (h1 := sA h (up_2 (hp_i h) 67 k b)) ?_ (gc_up G') F' R (fun R' => ?_)
          · unfold f_X10_wish b_X10_wish_0 b_X10_wish_4 b_X10_wish_9 b_X10_wish_14
            rw [if_neg c1, if_neg (show ¬ (5 : Int32) ≤ nI k from nI_ge (b := 5) k5 (by omega)), if_neg c3, if_pos (Int32.not_lt.mp c4)]
            unfold b_X10_wish_22
            rw [show g_r h 64 10 2 = some 67 from (if_pos o64).trans (by rw [r2]), Option.bind_some, show s_i h 67 (nI k) b = some (sA h (up_2 (hp_i h) 67 k b)) from s_iN o67 (by omega) (by omega), Option.bind_some]
            exact ok_z_1
          · have eR' : ∃ H0, GR H0 g ∧ RLF (sA h (up_2 (hp_i h) 67 k b)) H0 ∧ f_X11_wish 102 (nI k) b (sA h (up_2 (hp_i h) 67 k b)) = (f_X11_isIn (nI k) 0 4 H0).bind (fun q2 => if q2.1 = 0 then b_X11_wish_24 q2.2 else b_X11_wish_14 102 (nI k) b q2.2) := eR _ R'
            obtain ⟨H, R0, L0, e0⟩ := eR'
            refine ⟨sA H (up_2 (hp_i H) 112 k b), ?_, gr_A R0 (fun r q hr => u2 (by omega)) ?_ rfl, rlf_tr L0 (rl_A (fun r q hr => u2 (by omega)))⟩
            · rw [e0, isin_e, Option.bind_some, if_neg c1, if_neg c2, if_neg n10]
              unfold b_X11_wish_14
              rw [isin_e, Option.bind_some, if_neg c3, if_neg c4, if_neg n10]
              unfold b_X11_wish_26
              rw [rz_r (f := 32) (r := 112) (l := 5) R0.1 (by decide), Option.bind_some, rz_s (f := 32) (r := 112) (l := 5) R0.1 (by decide) (by omega) (by omega), Option.bind_some]
              exact ok_z_1
            · obtain ⟨-, ⟨⟨a1, a2⟩, ⟨b1, b2⟩, ⟨c1, c2⟩, d, ⟨e1, e2⟩, f, l, l1, l2⟩, -⟩ := R0
              have uu : ∀ r q, ¬ (r = 112 ∧ q = k) → up_2 (hp_i H) 112 k b r q = hp_i H r q := fun r q hq => u2 (by omega)
              exact ⟨⟨(uu _ _ (by omega)).trans a1, fun q hq => (uu _ _ (by omega)).trans (a2 q hq)⟩, ⟨(uu _ _ (by omega)).trans b1, (uu _ _ (by omega)).trans b2⟩, ⟨(uu _ _ (by omega)).trans c1, fun k hk => (uu _ _ (by omega)).trans (c2 k hk)⟩, uw _ 112 d, ⟨(uu _ _ (by omega)).trans e1, fun k hk => (uu _ _ (by omega)).trans (e2 k hk)⟩, (uu _ _ (by omega)).trans f, l, l1, (uu _ _ (by omega)).trans l2⟩
/-- the class copies what was printed -/
theorem c_take (G : GC h g m) : ∀ j f (A : Nat → Nat → Int32), j ≤ spm g → j < f → (∀ r k, r ≠ 65 → A r k = up_2 (hp_i h) 64 7 (nI (spm g)) r k) → (∀ k, k < spm g - j → A 65 k = nI (spt g k)) → ∃ A', l_X10_take_19 f 64 (nI (spm g - j)) (sA h A) = some (nI (spm g), sA h A') ∧ (∀ r k, r ≠ 65 → A' r k = up_2 (hp_i h) 64 7 (nI (spm g)) r k) ∧ ∀ k, k < spm g → A' 65 k = nI (spt g k) := by
  obtain ⟨⟨o64, r0, -, -, -, r4, -⟩, C, -, -, ⟨o72, r73, o73, l73⟩, -⟩ := G.2.1
  have o65 := C.2.2.2.2.1.1
  have l65 := C.2.2.2.2.1.2
  have pm := G.1.2.1.1
  intro j
  induction j with
  | zero =>
    intro f A _ hf h1 h2
    obtain ⟨f, rfl⟩ : ∃ f', f = f' + 1 := ⟨f - 1, by omega⟩
    refine ⟨A, ?_, h1, fun k hk => h2 k (by omega)⟩
    show b_X10_take_19 (l_X10_take_19 f) 64 (nI (spm g)) (sA h A) = _
    unfold b_X10_take_19
    rw [q_i o64, Option.bind_some, h1 _ _ (by omega), u2s, if_pos (nI_le (Nat.le_refl _) (by omega))]
    unfold b_X10_take_47
    rw [q_i o64, Option.bind_some, h1 _ _ (by omega), u2s]
  | succ j ih =>
    intro f A hj hf h1 h2
    obtain ⟨f, rfl⟩ : ∃ f', f = f' + 1 := ⟨f - 1, by omega⟩
    have ej : spm g - (j + 1) + 1 = spm g - j := by omega
    have e7 : A 72 0 = nI (spm g) := by rw [h1 _ _ (by omega), u2 (by omega)]; exact G.2.2.1.2.2.1.1
    have ek : A 73 (spm g - (j + 1)) = nI (spt g (spm g - (j + 1))) := by rw [h1 _ _ (by omega), u2 (by omega)]; exact G.2.2.1.2.2.1.2 _ (by omega)
    obtain ⟨A', x1, x2, x3⟩ := ih f (up_2 A 65 (spm g - (j + 1)) (nI (spt g (spm g - (j + 1))))) (by omega) (by omega) (fun r k hr => by rw [u2 (by omega)]; exact h1 r k hr) (fun k hk => by
      by_cases q : k = spm g - (j + 1)
      · rw [q, u2s]
      · rw [u2 (by omega)]; exact h2 k (by omega))
    refine ⟨A', ?_, x2, x3⟩
    show b_X10_take_19 (l_X10_take_19 f) 64 (nI (spm g - (j + 1))) (sA h A) = _
    unfold b_X10_take_19
    rw [q_i o64, Option.bind_some, h1 _ _ (by omega), u2s, if_neg (nI_ge (by omega) (by omega))]
    unfold b_X10_take_27 f_X4_byteAt b_X4_byteAt_0
    rw [q_r o64 r0, Option.bind_some, q_r o64 r4, Option.bind_some, q_v o72, Option.bind_some, if_neg (nI_pos (by omega))]
    unfold b_X4_byteAt_4
    rw [q_i o72, Option.bind_some, e7, if_neg (nI_ge (by omega) (by omega))]
    unfold b_X4_byteAt_12
    rw [if_neg (show ¬ (1000 : Int32) ≤ nI (spm g - (j + 1)) from nI_ge (b := 1000) (by omega) (by omega))]
    unfold b_X4_byteAt_19 b_X4_byteAt_29
    rw [q_r o72 r73, Option.bind_some, q_l o73 (by omega) (by omega), Option.bind_some, Option.bind_some, ek, q_s o65 (by omega) (by omega), Option.bind_some, da, ej]
    exact x1
theorem r_take (R : GR h g) (pm : spm g ≤ 1000) : ∀ j f (A : Nat → Nat → Int32), j ≤ spm g → j < f → (∀ r k, r ≠ 103 → A r k = up_2 (hp_i h) 102 3 (nI (spm g)) r k) → (∀ k, k < spm g - j → A 103 k = nI (spt g k)) → ∃ A', l_X11_take_31 f 102 (nI (spm g - j)) (sA h A) = some (nI (spm g), sA h A') ∧ (∀ r k, r ≠ 103 → A' r k = up_2 (hp_i h) 102 3 (nI (spm g)) r k) ∧ ∀ k, k < spm g → A' 103 k = nI (spt g k) := by
  have Z := R.1
  have c1 : ∀ A : Nat → Nat → Int32, g_r (sA h A) 102 11 1 = some 103 := fun A => rz_r (f := 1) (r := 103) (l := 1000) (sA_rz Z) (by decide)
  have c2 : ∀ A : Nat → Nat → Int32, g_r (sA h A) 102 11 2 = some 104 := fun A => rz_r (f := 2) (r := 104) (l := 2400) (sA_rz Z) (by decide)
  intro j
  induction j with
  | zero =>
    intro f A _ hf h1 h2
    obtain ⟨f, rfl⟩ : ∃ f', f = f' + 1 := ⟨f - 1, by omega⟩
    refine ⟨A, ?_, h1, fun k hk => h2 k (by omega)⟩
    show b_X11_take_31 (l_X11_take_31 f) 102 (nI (spm g)) (sA h A) = _
    unfold b_X11_take_31
    rw [v_g Z, Option.bind_some, h1 _ _ (by omega), u2s, if_pos (nI_le (Nat.le_refl _) (by omega))]
    unfold b_X11_take_57
    rw [v_g Z, Option.bind_some, h1 _ _ (by omega), u2s]
  | succ j ih =>
    intro f A hj hf h1 h2
    obtain ⟨f, rfl⟩ : ∃ f', f = f' + 1 := ⟨f - 1, by omega⟩
    have ej : spm g - (j + 1) + 1 = spm g - j := by omega
    have ek : A 104 (spm g - (j + 1)) = nI (spt g (spm g - (j + 1))) := by rw [h1 _ _ (by omega), u2 (by omega)]; exact R.2.1.2.2.1.2 _ (by omega)
    obtain ⟨A', x1, x2, x3⟩ := ih f (up_2 A 103 (spm g - (j + 1)) (nI (spt g (spm g - (j + 1))))) (by omega) (by omega) (fun r k hr => by rw [u2 (by omega)]; exact h1 r k hr) (fun k hk => by
      by_cases q : k = spm g - (j + 1)
      · rw [q, u2s]
      · rw [u2 (by omega)]; exact h2 k (by omega))
    refine ⟨A', ?_, x2, x3⟩
    show b_X11_take_31 (l_X11_take_31 f) 102 (nI (spm g - (j + 1))) (sA h A) = _
    unfold b_X11_take_31
    rw [v_g Z, Option.bind_some, h1 _ _ (by omega), u2s, if_neg (nI_ge (by omega) (by omega))]
    unfold b_X11_take_39
    rw [c1, Option.bind_some, c2, Option.bind_some, rz_l (f := 2) (r := 104) (l := 2400) (sA_rz Z) (by decide) (by omega) (by omega), Option.bind_some, sA_i, ek, show s_i (sA h A) 103 (nI (spm g - (j + 1))) (nI (spt g (spm g - (j + 1)))) = some (sA h (up_2 A 103 (spm g - (j + 1)) (nI (spt g (spm g - (j + 1)))))) from rz_s (f := 1) (r := 103) (l := 1000) (sA_rz Z) (by decide) (by omega) (by omega), Option.bind_some, da, ej]
    exact x1
theorem s_take (G : GC h g m) (R : GR h g) : STP (f_X10_take 64) (f_X11_take 102) h m := by
  obtain ⟨⟨o64, r0, -, -, -, r4, -⟩, C, -, -, ⟨o72, r73, o73, l73⟩, -⟩ := G.2.1
  have pm := G.1.2.1.1
  obtain ⟨A', x1, x2, x3⟩ := c_take G (spm g) fu_ (up_2 (hp_i h) 64 7 (nI (spm g))) (Nat.le_refl _) (by unfold fu_; omega) (fun _ _ _ => rfl) (fun k hk => by omega)
  have V : GVA A' (sD g, spt g, spm g, sfk g, sfp g, spt g, spm g, swi g, sws g, swm g) := by
    have uu : ∀ r q, r ≠ 65 → ¬ (r = 64 ∧ q = 7) → A' r q = hp_i h r q := fun r q h1 hq => by rw [x2 r q h1, u2 (by omega)]
    obtain ⟨⟨a1, a2⟩, ⟨b1, b2⟩, ⟨c1, c2⟩, d, e1, e2⟩ := G.2.2.1
    exact ⟨⟨by rw [x2 _ _ (by omega), u2s]; rfl, x3⟩, ⟨(uu _ _ (by omega) (by omega)).trans b1, (uu _ _ (by omega) (by omega)).trans b2⟩, ⟨(uu _ _ (by omega) (by omega)).trans c1, fun k hk => (uu _ _ (by omega) (by omega)).trans (c2 k hk)⟩, fun l hl => (uu _ _ (by omega) (by omega)).trans (d l hl), (uu _ _ (by omega) (by omega)).trans e1, fun k hk => (uu _ _ (by omega) (by omega)).trans (e2 k hk)⟩
  obtain ⟨G', F'⟩ := gc_A (g' := (sD g, spt g, spm g, sfk g, sfp g, spt g, spm g, swi g, sws g, swm g)) G (fun r q h1 h2 h3 h4 h5 => by rw [x2 r q h2, u2 (by omega)]) ⟨G.1.2.1, G.1.2⟩ V rfl
  refine stp_mk (v := nI (spm g)) (h1 := sA h A') ?_ (gc_up G') F' R (fun R' => ?_)
  · unfold f_X10_take b_X10_take_0
    have mn : mn_i (nI (spm g)) (1000 : Int32) = nI (spm g) := by
      unfold mn_i
      rw [if_neg (show ¬ (1000 : Int32) < nI (spm g) from nI_nlt (a := 1000) (by omega) (by omega))]
    rw [show g_r h 64 10 4 = some 72 from (if_pos o64).trans (by rw [r4]), Option.bind_some, show g_i h 72 4 0 = some (nI (spm g)) from (if_pos o72).trans (by rw [G.2.2.1.2.2.1.1]), Option.bind_some, mn, show p_i h 64 10 7 (nI (spm g)) = some (sA h (up_2 (hp_i h) 64 7 (nI (spm g)))) from if_pos o64, Option.bind_some]
    have := x1
    rw [Nat.sub_self] at this
    exact this
  · obtain ⟨H, e0, R0, L0, -⟩ := r_thr (v := 0) R'
    obtain ⟨B', y1, y2, y3⟩ := r_take R0 pm (spm g) fu_ (up_2 (hp_i H) 102 3 (nI (spm g))) (Nat.le_refl _) (by unfold fu_; omega) (fun _ _ _ => rfl) (fun k hk => by omega)
    refine ⟨sA H B', ?_, gr_A R0 (fun r q hr => by rw [y2 r q (by omega), u2 (by omega)]) ?_ rfl, rlf_tr L0 (rl_A (fun r q hr => by rw [y2 r q (by omega), u2 (by omega)]))⟩
    · unfold f_X11_take b_X11_take_0
      rw [e0, Option.bind_some, rz_g R0.1, Option.bind_some, R0.2.1.2.2.1.1, if_pos (show nI (spm g) ≤ (1000 : Int32) from nI_le (b := 1000) pm (by omega))]
      unfold b_X11_take_22 b_X11_take_26
      rw [rz_g R0.1, Option.bind_some, R0.2.1.2.2.1.1, show p_i H 102 11 3 (nI (spm g)) = some (sA H (up_2 (hp_i H) 102 3 (nI (spm g)))) from v_p (A := hp_i H) R0.1, Option.bind_some]
      have := y1
      rw [Nat.sub_self] at this
      exact this
    · obtain ⟨-, ⟨⟨a1, a2⟩, ⟨b1, b2⟩, ⟨c1, c2⟩, d, ⟨e1, e2⟩, f, l, l1, l2⟩, -⟩ := R0
      have uu : ∀ r q, r ≠ 103 → ¬ (r = 102 ∧ q = 3) → B' r q = hp_i H r q := fun r q h1 hq => by rw [y2 r q h1, u2 (by omega)]
      exact ⟨⟨by rw [y2 _ _ (by omega), u2s]; rfl, y3⟩, ⟨(uu _ _ (by omega) (by omega)).trans b1, (uu _ _ (by omega) (by omega)).trans b2⟩, ⟨(uu _ _ (by omega) (by omega)).trans c1, fun k hk => (uu _ _ (by omega) (by omega)).trans (c2 k hk)⟩, fun l hl => (uu _ _ (by omega) (by omega)).trans (d l hl), ⟨(uu _ _ (by omega) (by omega)).trans e1, fun k hk => (uu _ _ (by omega) (by omega)).trans (e2 k hk)⟩, (uu _ _ (by omega) (by omega)).trans f, l, l1, (uu _ _ (by omega) (by omega)).trans l2⟩
end
