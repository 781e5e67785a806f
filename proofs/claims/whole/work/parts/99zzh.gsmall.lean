/-! ===== small calls: end, fault, out, step, wish ===== -/
theorem i_cs (a : Int32) : a < 0 ∨ ∃ k, k < 2 ^ 31 ∧ a = nI k := by
  by_cases c : a < 0
  · exact Or.inl c
  · right
    have h0 : (0 : Int32) ≤ a := Int32.not_lt.mp c
    have h1 : 0 ≤ a.toInt := by
      have := Int32.le_iff_toInt_le.mp h0
      simpa using this
    refine ⟨a.toInt.toNat, ?_, ?_⟩
    · have := Int32.toInt_lt a
      omega
    · show a = Int32.ofNat a.toInt.toNat
      apply Int32.toInt_inj.mp
      rw [Int32.toInt_ofNat_of_lt (by have := Int32.toInt_lt a; omega)]
      omega
theorem isin_e {a b c : Int32} {H : AH} : f_X11_isIn a b c H = some (if a < b then 0 else if c < a then 0 else 1, H) := by
  unfold f_X11_isIn b_X11_isIn_0 b_X11_isIn_5 b_X11_isIn_14 b_X11_isIn_10 b_X11_isIn_15
  by_cases h1 : a < b
  · rw [if_pos h1, if_pos h1]; exact ok_z_0
  · rw [if_neg h1, if_neg h1]
    by_cases h2 : c < a
    · rw [if_pos h2, if_pos h2]; exact ok_z_0
    · rw [if_neg h2, if_neg h2]; exact ok_z_1
section
variable {h : AH} {g g' : SG} {m : Nat} {A : Nat → Nat → Int32}
theorem gc_up (G : GC h g m) : GC h g (m + 1) := by
  obtain ⟨a, b, c, d, ⟨r1, r2⟩, tn, t1, t2⟩ := G
  exact ⟨a, b, c, d, ⟨by omega, by omega⟩, tn, by omega, t2⟩
theorem cl_A (hA : ∀ r k, 102 ≤ r → r ≤ 124 → A r k = hp_i h r k) : CLF h (sA h A) := ⟨Nat.le_refl _, fun r h1 h2 => ⟨rfl, rfl, fun h3 => ⟨funext (fun k => hA r k h1 h3), rfl, rfl⟩⟩⟩
/-- the class writes its own small rows -/
theorem gc_A (G : GC h g m) (hA : ∀ r k, r ≠ 64 → r ≠ 65 → r ≠ 67 → r ≠ 72 → r ≠ 73 → A r k = hp_i h r k) (S : SGI g') (V : GVA A g') (e : sD g' = sD g) : GC (sA h A) g' m ∧ CLF h (sA h A) := by
  obtain ⟨a, b, c, d, r, tn, t1, t2⟩ := G
  have eA : ∀ r, r ≠ 64 → r ≠ 65 → r ≠ 67 → r ≠ 72 → r ≠ 73 → hp_i (sA h A) r = hp_i h r := fun r h1 h2 h3 h4 h5 => funext (fun k => hA r k h1 h2 h3 h4 h5)
  refine ⟨⟨S, b, V, ?_, r, tn, t1, ?_⟩, cl_A (fun r k h1 h2 => hA r k (by omega) (by omega) (by omega) (by omega) (by omega))⟩
  · obtain ⟨d1, d2⟩ := d
    refine ⟨fun p hp => ?_, d2⟩
    rw [e]
    refine (d1 p hp).imp id (fun ⟨x, x1, x2⟩ => ⟨x, x1, cpl_fr (h := h) (h' := sA h A) (x := 0) (sq_of (Nat.le_refl _) (fun r hr _ => ⟨rfl, rfl, eA r (by omega) (by omega) (by omega) (by omega) (by omega), rfl, rfl⟩) rfl rfl) (fun z => ?_) x2⟩)
    have := x2.1.1.1
    have z' : hp_r h 66 p = 0 := z
    omega
  · have w1 := b.2.2.2.2.2.2.2.1
    have w2 := b.2.2.2.2.2.2.2.2
    exact hb_eq (h := h) (h' := sA h A) rfl rfl rfl rfl (eA 90 (by omega) (by omega) (by omega) (by omega) (by omega)) (eA 95 (by omega) (by omega) (by omega) (by omega) (by omega)) (eA _ (by omega) (by omega) (by omega) (by omega) (by omega)) (eA _ (by omega) (by omega) (by omega) (by omega) (by omega)) t2
theorem rl_A (hA : ∀ r k, r < 102 ∨ 124 < r → A r k = hp_i h r k) : RLF h (sA h A) := ⟨rfl, rfl, rfl, rfl, rfl, rfl, fun r k hr => hA r k (by omega)⟩
/-- the reference writes its own small rows -/
theorem gr_A (G : GR h g) (hA : ∀ r k, r = 106 ∨ r = 110 ∨ r = 111 ∨ r = 115 ∨ r = 116 ∨ r = 118 ∨ r = 119 → A r k = hp_i h r k) (V : RVA A g') (e : sD g' = sD g) : GR (sA h A) g' := by
  obtain ⟨a, b, c⟩ := G
  have eA : ∀ r, r = 106 ∨ r = 110 ∨ r = 111 ∨ r = 115 ∨ r = 116 ∨ r = 118 ∨ r = 119 → hp_i (sA h A) r = hp_i h r := fun r hr => funext (fun k => hA r k hr)
  refine ⟨a, V, fun p hp => ?_⟩
  have := c p hp
  unfold RPl RCk LI at *
  rw [eA 106 (by omega), eA 110 (by omega), eA 111 (by omega), eA 115 (by omega), eA 116 (by omega), eA 118 (by omega), eA 119 (by omega), e]
  exact this
/-- a call: both sides answer v and go on -/
def STP (rC : AH → Option (Int32 × AH)) (rR : AH → Option (Int32 × AH)) (h : AH) (m : Nat) : Prop := ∃ v h1 h2 g', rC h = some (v, h1) ∧ rR h1 = some (v, h2) ∧ GC h2 g' (m + 1) ∧ GR h2 g' ∧ ok_o h1 102 11
theorem stp_mk {rC rR : AH → Option (Int32 × AH)} {v : Int32} {h1 : AH} (e1 : rC h = some (v, h1)) (G : GC h1 g' (m + 1)) (F : CLF h h1) (R : GR h g) (k : GR h1 g → ∃ h2, rR h1 = some (v, h2) ∧ GR h2 g' ∧ RLF h1 h2) : STP rC rR h m := by
  obtain ⟨h2, x1, x2, x3⟩ := k (gr_cl F R)
  exact ⟨v, h1, h2, g', e1, x1, gc_rl x3 G, x2, (gr_cl F R).1.1⟩
theorem rlf_tr {h1 h2 h3 : AH} (a : RLF h1 h2) (b : RLF h2 h3) : RLF h1 h3 := ⟨b.1.trans a.1, b.2.1.trans a.2.1, b.2.2.1.trans a.2.2.1, b.2.2.2.1.trans a.2.2.2.1, b.2.2.2.2.1.trans a.2.2.2.2.1, b.2.2.2.2.2.1.trans a.2.2.2.2.2.1, fun r k hr => (b.2.2.2.2.2.2 r k hr).trans (a.2.2.2.2.2.2 r k hr)⟩
theorem rlf_rf : RLF h h := ⟨rfl, rfl, rfl, rfl, rfl, rfl, fun _ _ _ => rfl⟩
theorem clf_rf : CLF h h := ⟨Nat.le_refl _, fun r _ _ => ⟨rfl, rfl, fun _ => ⟨rfl, rfl, rfl⟩⟩⟩
/-- thrown is set -/
theorem r_thr {v : Int32} (R : GR h g) : ∃ H, p_i h 102 11 0 v = some H ∧ GR H g ∧ RLF h H ∧ hp_i H 102 0 = v ∧ ∀ r k, ¬ (r = 102 ∧ k = 0) → hp_i H r k = hp_i h r k := by
  refine ⟨sA h (up_2 (hp_i h) 102 0 v), v_p (A := hp_i h) R.1, gr_A R (fun r k hr => u2 (by omega)) ?_ rfl, rl_A (fun r k hr => u2 (by omega)), (show up_2 (hp_i h) 102 0 v 102 0 = v from u2s), fun r k hk => (show up_2 (hp_i h) 102 0 v r k = hp_i h r k from u2 (by omega))⟩
  have uu : ∀ r q, ¬ (r = 102 ∧ q = 0) → up_2 (hp_i h) 102 0 v r q = hp_i h r q := fun r q hq => u2 (by omega)
  obtain ⟨-, ⟨⟨a1, a2⟩, ⟨b1, b2⟩, ⟨c1, c2⟩, d, ⟨e1, e2⟩, f, l, l1, l2⟩, -⟩ := R
  exact ⟨⟨(uu _ _ (by omega)).trans a1, fun k hk => (uu _ _ (by omega)).trans (a2 k hk)⟩, ⟨(uu _ _ (by omega)).trans b1, (uu _ _ (by omega)).trans b2⟩, ⟨(uu _ _ (by omega)).trans c1, fun k hk => (uu _ _ (by omega)).trans (c2 k hk)⟩, fun l hl => (uu _ _ (by omega)).trans (d l hl), ⟨(uu _ _ (by omega)).trans e1, fun k hk => (uu _ _ (by omega)).trans (e2 k hk)⟩, (uu _ _ (by omega)).trans f, l, l1, (uu _ _ (by omega)).trans l2⟩
theorem gc_n (G : GC h g m) : sn g ≤ 1000 ∧ g_i h 64 10 7 = some (nI (sn g)) := ⟨G.1.1.1, (if_pos G.2.1.1.1).trans (by rw [G.2.2.1.1.1])⟩
theorem s_end {a : Int32} (G : GC h g m) (R : GR h g) : STP (f_X10_end 64 a) (f_X11_end 102 a) h m := by
  obtain ⟨n1, n2⟩ := gc_n G
  have o64 := G.2.1.1.1
  have bad : (a < 0 ∨ nI (sn g) < a) → STP (f_X10_end 64 a) (f_X11_end 102 a) h m := fun hb => by
    refine stp_mk (g' := g) (v := 0) (h1 := h) ?_ (gc_up G) clf_rf R (fun R => ?_)
    · unfold f_X10_end b_X10_end_0
      by_cases c : a < 0
      · rw [if_pos c]; exact ok_z_0
      · rw [if_neg c]
        unfold b_X10_end_4
        rw [n2, Option.bind_some, if_neg (Int32.not_le.mpr (hb.resolve_left c))]
        exact ok_z_0
    · obtain ⟨H, e0, R0, L0, -⟩ := r_thr (v := 0) R
      refine ⟨H, ?_, R0, L0⟩
      have e1 : (if a < 0 then (0 : Int32) else if nI (sn g) < a then 0 else 1) = 0 := by
        by_cases c : a < 0
        · exact if_pos c
        · exact (if_neg c).trans (if_pos (hb.resolve_left c))
      unfold f_X11_end b_X11_end_0
      rw [e0, Option.bind_some, rz_g R0.1, Option.bind_some, R0.2.1.1.1, isin_e, Option.bind_some, e1, if_pos rfl]
      exact ok_z_0
  rcases i_cs a with c | ⟨k, k1, rfl⟩
  · exact bad (Or.inl c)
  · by_cases c : k ≤ sn g
    · have k0 : ¬ nI k < 0 := nI_pos k1
      have kn : ¬ nI (sn g) < nI k := nI_nlt c (by omega)
      have V : GVA (up_2 (hp_i h) 64 7 (nI k)) (sD g, stpe g, k, sfk g, sfp g, spt g, spm g, swi g, sws g, swm g) := by
        have uu : ∀ r q, ¬ (r = 64 ∧ q = 7) → up_2 (hp_i h) 64 7 (nI k) r q = hp_i h r q := fun r q hq => u2 (by omega)
        obtain ⟨⟨a1, a2⟩, ⟨b1, b2⟩, ⟨c1, c2⟩, d, e1, e2⟩ := G.2.2.1
        exact ⟨⟨u2s, fun q (hq : q < k) => (uu _ _ (by omega)).trans (a2 q (by omega))⟩, ⟨(uu _ _ (by omega)).trans b1, (uu _ _ (by omega)).trans b2⟩, ⟨(uu _ _ (by omega)).trans c1, fun k hk => (uu _ _ (by omega)).trans (c2 k hk)⟩, fun l hl => (uu _ _ (by omega)).trans (d l hl), (uu _ _ (by omega)).trans e1, fun k hk => (uu _ _ (by omega)).trans (e2 k hk)⟩
      obtain ⟨G', F'⟩ := gc_A (g' := (sD g, stpe g, k, sfk g, sfp g, spt g, spm g, swi g, sws g, swm g)) G (fun r q h1 h2 h3 h4 h5 => u2 (by omega)) ⟨⟨by show k ≤ 1000; omega, fun q (hq : q < k) => G.1.1.2 q (by omega)⟩, G.1.2⟩ V rfl
      refine stp_mk (v := 1) (h1 := sA h (up_2 (hp_i h) 64 7 (nI k))) ?_ (gc_up G') F' R (fun R' => ?_)
      · unfold f_X10_end b_X10_end_0
        rw [if_neg k0]
        unfold b_X10_end_4
        rw [n2, Option.bind_some, if_pos (Int32.not_lt.mp kn)]
        unfold b_X10_end_14
        rw [show p_i h 64 10 7 (nI k) = some (sA h (up_2 (hp_i h) 64 7 (nI k))) from if_pos o64, Option.bind_some]
        exact ok_z_1
      · obtain ⟨H, e0, R0, L0, -⟩ := r_thr (v := 0) R'
        refine ⟨sA H (up_2 (hp_i H) 102 3 (nI k)), ?_, gr_A R0 (fun r q hr => u2 (by omega)) ?_ rfl, rlf_tr L0 (rl_A (fun r q hr => u2 (by omega)))⟩
        · unfold f_X11_end b_X11_end_0
          rw [e0, Option.bind_some, rz_g R0.1, Option.bind_some, R0.2.1.1.1, isin_e, Option.bind_some, if_neg k0, if_neg kn, if_neg n10]
          unfold b_X11_end_19
          rw [show p_i H 102 11 3 (nI k) = some (sA H (up_2 (hp_i H) 102 3 (nI k))) from v_p (A := hp_i H) R0.1, Option.bind_some]
          exact ok_z_1
        · obtain ⟨-, ⟨⟨a1, a2⟩, ⟨b1, b2⟩, ⟨c1, c2⟩, d, ⟨e1, e2⟩, f, l, l1, l2⟩, -⟩ := R0
          have uu : ∀ r q, ¬ (r = 102 ∧ q = 3) → up_2 (hp_i H) 102 3 (nI k) r q = hp_i H r q := fun r q hq => u2 (by omega)
          exact ⟨⟨u2s, fun q (hq : q < k) => (uu _ _ (by omega)).trans (a2 q (by omega))⟩, ⟨(uu _ _ (by omega)).trans b1, (uu _ _ (by omega)).trans b2⟩, ⟨(uu _ _ (by omega)).trans c1, fun k hk => (uu _ _ (by omega)).trans (c2 k hk)⟩, fun l hl => (uu _ _ (by omega)).trans (d l hl), ⟨(uu _ _ (by omega)).trans e1, fun k hk => (uu _ _ (by omega)).trans (e2 k hk)⟩, (uu _ _ (by omega)).trans f, l, l1, (uu _ _ (by omega)).trans l2⟩
    · exact bad (Or.inr (nI_lt (by omega) (by omega)))
theorem s_fault {a : Int32} (G : GC h g m) (R : GR h g) : STP (f_X10_fault 64 a) (f_X11_fault 102 a) h m := by
  have o64 := G.2.1.1.1
  have v8 : g_i h 64 10 8 = some (sfk g) := (if_pos o64).trans (by rw [G.2.2.1.2.1.1])
  have v9 : g_i h 64 10 9 = some (sfp g) := (if_pos o64).trans (by rw [G.2.2.1.2.1.2])
  refine stp_mk (g' := g) (v := if a = 0 then sfk g else if a = 1 then sfp g else -1) (h1 := h) ?_ (gc_up G) clf_rf R (fun R => ?_)
  · unfold f_X10_fault b_X10_fault_0 b_X10_fault_28 b_X10_fault_33 b_X10_fault_38
    by_cases c : a = 0
    · rw [if_pos c, if_pos c, v8, Option.bind_some]
    · rw [if_neg c, if_neg c]
      by_cases c1 : a = 1
      · rw [if_pos c1, if_pos c1, v9, Option.bind_some]
      · rw [if_neg c1, if_neg c1]
  · obtain ⟨H, e0, R0, L0, -⟩ := r_thr (v := 0) R
    refine ⟨H, ?_, R0, L0⟩
    unfold f_X11_fault b_X11_fault_0 b_X11_fault_9 b_X11_fault_16 b_X11_fault_21 b_X11_fault_28 b_X11_fault_29
    rw [e0, Option.bind_some]
    by_cases c : a = 0
    · rw [if_pos c, if_pos c, rz_g R0.1, Option.bind_some, R0.2.1.2.1.1]
    · rw [if_neg c, if_neg c]
      by_cases c1 : a = 1
      · rw [if_pos c1, if_pos c1, rz_g R0.1, Option.bind_some, R0.2.1.2.1.2]
      · rw [if_neg c1, if_neg c1]
theorem rd_cs {a : Int32} {M : Nat} (hM : M ≤ 100000) : (∃ k, k < M ∧ a = nI k ∧ ∀ H, f_X11_isIn a 0 (nI M - 1) H = some (1, H)) ∨ ((a < 0 ∨ ∃ k, M ≤ k ∧ k < 2 ^ 31 ∧ a = nI k) ∧ ∀ H, f_X11_isIn a 0 (nI M - 1) H = some (0, H)) := by
  rcases i_cs a with c | ⟨k, k1, rfl⟩
  · exact Or.inr ⟨Or.inl c, fun H => by rw [isin_e, if_pos c]⟩
  · have k0 : ¬ nI k < 0 := nI_pos k1
    by_cases c : k < M
    · left
      refine ⟨k, c, rfl, fun H => ?_⟩
      obtain ⟨M', rfl⟩ : ∃ M', M = M' + 1 := ⟨M - 1, by omega⟩
      rw [isin_e, if_neg k0, show nI (M' + 1) - 1 = nI M' from by rw [← nI_1, Int32.add_sub_cancel], if_neg (nI_nlt (by omega) (by omega))]
    · right
      refine ⟨Or.inr ⟨k, by omega, k1, rfl⟩, fun H => ?_⟩
      rw [isin_e, if_neg k0]
      by_cases c0 : M = 0
      · have : nI M - 1 < nI k := by
          rw [c0]
          show (-1 : Int32) < nI k
          rcases i_cs (nI k) with z | -
          · exact absurd z k0
          · exact Int32.not_le.mp (fun z => k0 (Int32.lt_of_le_of_lt z (by decide)))
        rw [if_pos this]
      · obtain ⟨M', rfl⟩ : ∃ M', M = M' + 1 := ⟨M - 1, by omega⟩
        rw [show nI (M' + 1) - 1 = nI M' from by rw [← nI_1, Int32.add_sub_cancel], if_pos (nI_lt (by omega) (by omega))]
theorem s_out {a : Int32} (G : GC h g m) (R : GR h g) : STP (f_X10_out 64 a) (f_X11_out 102 a) h m := by
  obtain ⟨⟨o64, -, -, -, -, r4, -⟩, -, -, -, ⟨o72, r73, o73, l73⟩, -⟩ := G.2.1
  have pm := G.1.2.1.1
  have v0 : g_i h 72 4 0 = some (nI (spm g)) := (if_pos o72).trans (by rw [G.2.2.1.2.2.1.1])
  have eC : ∀ v, f_X4_byteAt 72 a h = some (v, h) → f_X10_out 64 a h = some (v, h) := fun v e => by
    unfold f_X10_out b_X10_out_0
    rw [show g_r h 64 10 4 = some 72 from (if_pos o64).trans (by rw [r4]), Option.bind_some, show ok_v h 72 4 = some () from if_pos o72, Option.bind_some, e, Option.bind_some]
  have eR : ∀ H, GR H g → ∃ H0, GR H0 g ∧ RLF H H0 ∧ f_X11_out 102 a H = (f_X11_isIn a 0 (nI (spm g) - 1) H0).bind (fun q3 => if q3.1 = 0 then b_X11_out_28 q3.2 else b_X11_out_19 102 a q3.2) := fun H R => by
    obtain ⟨H0, e0, R0, L0, -⟩ := r_thr (v := 0) R
    refine ⟨H0, R0, L0, ?_⟩
    unfold f_X11_out b_X11_out_0
    rw [e0, Option.bind_some, rz_g R0.1, Option.bind_some, R0.2.1.2.2.1.1]
  rcases rd_cs (a := a) (M := spm g) (by omega) with ⟨k, k1, rfl, e⟩ | ⟨c, e⟩
  · refine stp_mk (g' := g) (v := nI (spt g k)) (h1 := h) (eC _ ?_) (gc_up G) clf_rf R (fun R => ?_)
    · unfold f_X4_byteAt b_X4_byteAt_0
      rw [if_neg (nI_pos (by omega))]
      unfold b_X4_byteAt_4
      rw [v0, Option.bind_some, if_neg (nI_ge k1 (by omega))]
      unfold b_X4_byteAt_12
      rw [if_neg (show ¬ (1000 : Int32) ≤ nI k from nI_ge (b := 1000) (by omega) (by omega))]
      unfold b_X4_byteAt_19 b_X4_byteAt_29
      rw [show g_r h 72 4 1 = some 73 from (if_pos o72).trans (by rw [r73]), Option.bind_some, l_iN o73 (by omega) (by omega), Option.bind_some, G.2.2.1.2.2.1.2 k k1]
    · obtain ⟨H0, R0, L0, e0⟩ := eR h R
      refine ⟨H0, ?_, R0, L0⟩
      rw [e0, e, Option.bind_some, if_neg n10]
      unfold b_X11_out_19 b_X11_out_29
      rw [rz_r (f := 2) (r := 104) (l := 2400) R0.1 (by decide), Option.bind_some, rz_l (f := 2) (r := 104) (l := 2400) R0.1 (by decide) (by omega) (by omega), Option.bind_some, R0.2.1.2.2.1.2 k k1]
  · refine stp_mk (g' := g) (v := -1) (h1 := h) (eC _ ?_) (gc_up G) clf_rf R (fun R => ?_)
    · unfold f_X4_byteAt b_X4_byteAt_0
      by_cases c0 : a < 0
      · rw [if_pos c0]; rfl
      · rw [if_neg c0]
        obtain ⟨k, k1, k2, rfl⟩ := c.resolve_left c0
        unfold b_X4_byteAt_4
        rw [v0, Option.bind_some, if_pos (nI_le k1 k2)]
        rfl
    · obtain ⟨H0, R0, L0, e0⟩ := eR h R
      refine ⟨H0, ?_, R0, L0⟩
      rw [e0, e, Option.bind_some, if_pos rfl]
      rfl
theorem s_step {a : Int32} (G : GC h g m) (R : GR h g) : STP (f_X10_step 64 a) (f_X11_step 102 a) h m := by
  obtain ⟨⟨o64, -, -, -, -, -, r5, -⟩, -⟩ := G.2.1
  obtain ⟨tn, -, HBh⟩ := G.2.2.2.2.2
  obtain ⟨o74, -, -, -, -, r98⟩ := HBh.1
  obtain ⟨o98, l98⟩ := HBh.2.2.2.2.2.1
  have pm := G.1.2.2.2
  have v0 : g_i h 74 8 5 = some (nI (swm g)) := (if_pos o74).trans (by rw [G.2.2.1.2.2.2.2.1])
  have eC : ∀ v, f_X8_witnessThread 74 a h = some (v, h) → f_X10_step 64 a h = some (v, h) := fun v e => by
    unfold f_X10_step b_X10_step_0
    rw [show g_r h 64 10 5 = some 74 from (if_pos o64).trans (by rw [r5]), Option.bind_some, show ok_v h 74 8 = some () from if_pos o74, Option.bind_some, e, Option.bind_some]
  have eR : ∀ H, GR H g → ∃ H0, GR H0 g ∧ RLF H H0 ∧ f_X11_step 102 a H = (f_X11_isIn a 0 (nI (swm g) - 1) H0).bind (fun q3 => if q3.1 = 0 then b_X11_step_28 q3.2 else b_X11_step_19 102 a q3.2) := fun H R => by
    obtain ⟨H0, e0, R0, L0, -⟩ := r_thr (v := 0) R
    refine ⟨H0, R0, L0, ?_⟩
    unfold f_X11_step b_X11_step_0
    rw [e0, Option.bind_some, rz_g R0.1, Option.bind_some, R0.2.1.2.2.2.2.1.1]
  have g98 : g_r h 74 8 4 = some 98 := (if_pos o74).trans (by rw [r98])
  rcases rd_cs (a := a) (M := swm g) (by omega) with ⟨k, k1, rfl, e⟩ | ⟨c, e⟩
  · refine stp_mk (g' := g) (v := nI (sws g k)) (h1 := h) (eC _ ?_) (gc_up G) clf_rf R (fun R => ?_)
    · unfold f_X8_witnessThread b_X8_witnessThread_0
      rw [if_neg (nI_pos (by omega))]
      unfold b_X8_witnessThread_4
      rw [v0, Option.bind_some, if_neg (nI_ge k1 (by omega))]
      unfold b_X8_witnessThread_12
      rw [g98, Option.bind_some, show al_n h 98 = some (nI 17) from (if_pos ⟨o98.1, o98.2.1, by rw [o98.2.2]; omega, by rw [o98.2.2]; omega⟩).trans (by rw [l98]; rfl), Option.bind_some, if_neg (nI_ge (by omega) (by omega))]
      unfold b_X8_witnessThread_21 b_X8_witnessThread_31
      rw [g98, Option.bind_some, l_iN o98 (by omega) (by omega), Option.bind_some, G.2.2.1.2.2.2.2.2 k k1]
    · obtain ⟨H0, R0, L0, e0⟩ := eR h R
      refine ⟨H0, ?_, R0, L0⟩
      rw [e0, e, Option.bind_some, if_neg n10]
      unfold b_X11_step_19 b_X11_step_29
      rw [rz_r (f := 33) (r := 113) (l := 8) R0.1 (by decide), Option.bind_some, rz_l (f := 33) (r := 113) (l := 8) R0.1 (by decide) (by omega) (by omega), Option.bind_some, R0.2.1.2.2.2.2.1.2 k k1]
  · refine stp_mk (g' := g) (v := -1) (h1 := h) (eC _ ?_) (gc_up G) clf_rf R (fun R => ?_)
    · unfold f_X8_witnessThread b_X8_witnessThread_0
      by_cases c0 : a < 0
      · rw [if_pos c0]; rfl
      · rw [if_neg c0]
        obtain ⟨k, k1, k2, rfl⟩ := c.resolve_left c0
        unfold b_X8_witnessThread_4
        rw [v0, Option.bind_some, if_pos (nI_le k1 k2)]
        rfl
    · obtain ⟨H0, R0, L0, e0⟩ := eR h R
      refine ⟨H0, ?_, R0, L0⟩
      rw [e0, e, Option.bind_some, if_pos rfl]
      rfl
end
