/-! ===== the class's row of outcomes ===== -/
def OI (h : AH) (L : List Int32) : Prop :=
  ok_o h 95 3 ∧ ok_o h (hp_r h 95 0) 100 ∧ 64 ≤ hp_l h (hp_r h 95 0) ∧ hp_l h (hp_r h 95 0) ≤ 65536 ∧ L.length ≤ hp_l h (hp_r h 95 0) ∧ RowIs (hp_i h (hp_r h 95 0)) L ∧ hp_i h 95 1 = nI L.length ∧ srt L
/-- what add() leaves alone -/
def FA (h h' : AH) : Prop :=
  hp_n h ≤ hp_n h' ∧ (∀ r, r < hp_n h → hp_k h' r = hp_k h r ∧ hp_l h' r = hp_l h r) ∧ (∀ r, r < hp_n h → r ≠ 95 → r ≠ hp_r h 95 0 → hp_i h' r = hp_i h r) ∧ (∀ r, r < hp_n h → hp_j h' r = hp_j h r) ∧ (∀ r, r < hp_n h → r ≠ 95 → hp_r h' r = hp_r h r) ∧
  (hp_r h' 95 0 = hp_r h 95 0 ∨ hp_n h ≤ hp_r h' 95 0) ∧ hp_n h' + hp_l h (hp_r h 95 0) ≤ hp_n h + hp_l h' (hp_r h' 95 0) ∧ hp_s h' + 2 * hp_l h (hp_r h 95 0) ≤ hp_s h + 2 * hp_l h' (hp_r h' 95 0)
theorem FA_rf {h : AH} : FA h h := ⟨Nat.le_refl _, fun _ _ => ⟨rfl, rfl⟩, fun _ _ _ _ => rfl, fun _ _ => rfl, fun _ _ _ => rfl, Or.inl rfl, Nat.le_refl _, Nat.le_refl _⟩
section
variable {h : AH} {L : List Int32} {x : Int32}
theorem oi_r (I : OI h L) : g_r h 95 3 0 = some (hp_r h 95 0) := if_pos I.1
theorem oi_i (I : OI h L) : g_i h 95 3 1 = some (nI L.length) := by rw [← I.2.2.2.2.2.2.1]; exact if_pos I.1
theorem oi_95 (I : OI h L) : hp_r h 95 0 ≠ 95 := fun e => by
  have h1 := I.2.1.2.2
  rw [e, I.1.2.2] at h1
  omega
/-- the shift: row[i] = row[i-1] down to k, then x at k -/
theorem oc_shift {f : Nat → Int32} {r : Nat} {n k : Nat} (hn : n ≤ 65536) (x : Int32) : ∀ (m : Nat), k + m ≤ n → ∀ (fu : Nat) (g : AH), m < fu → ok_o g 95 3 → hp_r g 95 0 = r → r ≠ 95 → ok_o g r 100 → n < hp_l g r → hp_l g r ≤ 65536 → (∀ j, j ≤ k + m → hp_i g r j = f j) → (∀ j, k + m < j → j ≤ n → hp_i g r j = f (j - 1)) →
    ∃ g', l_X3_add_89 fu 95 x (nI k) (nI (k + m)) g = some g' ∧ hp_n g' = hp_n g ∧ hp_s g' = hp_s g ∧ hp_k g' = hp_k g ∧ hp_l g' = hp_l g ∧ hp_j g' = hp_j g ∧ hp_r g' = hp_r g ∧ (∀ r', r' ≠ 95 → r' ≠ r → hp_i g' r' = hp_i g r') ∧ (∀ j, j < k → hp_i g' r j = f j) ∧ hp_i g' r k = x ∧ (∀ j, k < j → j ≤ n → hp_i g' r j = f (j - 1)) ∧ hp_i g' 95 1 = hp_i g 95 1 + 1 := by
  intro m
  induction m with
  | zero =>
    intro hm fu g hf o1 o2 o3 o4 o5 o6 c1 c2
    obtain ⟨fu, rfl⟩ : ∃ f, fu = f + 1 := ⟨fu - 1, by omega⟩
    show ∃ g', b_X3_add_89 (l_X3_add_89 fu) 95 x (nI k) (nI (k + 0)) g = some g' ∧ _
    unfold b_X3_add_89
    rw [if_pos (nI_le (by omega) (by omega))]
    unfold b_X3_add_114 b_X3_add_131
    have e1 : s_i g r (nI k) x = some (st_i g r k x) := by
      have e : s_i g r (nI k) x = some (st_i g r (nI k).toNatClampNeg x) := if_pos ⟨o4, nI_pos (by omega), by rw [nI_clamp (by omega)]; omega⟩
      rw [e, nI_clamp (by omega)]
    rw [show g_r g 95 3 0 = some (hp_r g 95 0) from if_pos o1, o2, Option.bind_some, e1, Option.bind_some, show g_i (st_i g r k x) 95 3 1 = some (hp_i (st_i g r k x) 95 1) from if_pos o1, Option.bind_some, show p_i (st_i g r k x) 95 3 1 (hp_i (st_i g r k x) 95 1 + 1) = some (st_i (st_i g r k x) 95 1 (hp_i (st_i g r k x) 95 1 + 1)) from if_pos o1, Option.bind_some]
    have hi : ∀ r' j, r' ≠ 95 → hp_i (st_i (st_i g r k x) 95 1 (hp_i (st_i g r k x) 95 1 + 1)) r' j = up_2 (hp_i g) r k x r' j := fun r' j hr => up2_r hr
    refine ⟨_, rfl, rfl, rfl, rfl, rfl, rfl, rfl, fun r' h1 h2 => ?_, fun j hj => ?_, ?_, fun j h1 h2 => ?_, ?_⟩
    · funext j; rw [hi r' j h1, up2_r h2]
    · rw [hi r j o3, up2_k (by omega)]; exact c1 j (by omega)
    · rw [hi r k o3, up2_same]
    · rw [hi r j o3, up2_k (by omega)]; exact c2 j (by omega) h2
    · show up_2 (hp_i (st_i g r k x)) 95 1 (hp_i (st_i g r k x) 95 1 + 1) 95 1 = _
      rw [up2_same]
      show up_2 (hp_i g) r k x 95 1 + 1 = _
      rw [up2_r (Ne.symm o3)]
  | succ m ih =>
    intro hm fu g hf o1 o2 o3 o4 o5 o6 c1 c2
    obtain ⟨fu, rfl⟩ : ∃ f, fu = f + 1 := ⟨fu - 1, by omega⟩
    show ∃ g', b_X3_add_89 (l_X3_add_89 fu) 95 x (nI k) (nI (k + (m + 1))) g = some g' ∧ _
    unfold b_X3_add_89
    rw [if_neg (nI_ge (by omega) (by omega))]
    unfold b_X3_add_94
    have e1 : s_i g r (nI (k + (m + 1))) (hp_i g r (k + m)) = some (st_i g r (k + (m + 1)) (hp_i g r (k + m))) := by
      have e : s_i g r (nI (k + (m + 1))) (hp_i g r (k + m)) = some (st_i g r (nI (k + (m + 1))).toNatClampNeg (hp_i g r (k + m))) := if_pos ⟨o4, nI_pos (by omega), by rw [nI_clamp (by omega)]; omega⟩
      rw [e, nI_clamp (by omega)]
    rw [show g_r g 95 3 0 = some (hp_r g 95 0) from if_pos o1, o2, Option.bind_some, Option.bind_some, show k + (m + 1) = (k + m) + 1 from rfl, nI_pred, li_row o4 (by omega) (by omega), Option.bind_some, show (k + m) + 1 = k + (m + 1) from rfl, e1, Option.bind_some, show nI (k + (m + 1)) + -1 = nI (k + m) from pk_m1 (k + m)]
    obtain ⟨g', q1, q2, q3, q4, q5, q6, q7, q8, q9, q10, q11, q12⟩ := ih (by omega) fu (st_i g r (k + (m + 1)) (hp_i g r (k + m))) (by omega) o1 o2 o3 o4 o5 o6 (fun j hj => by
        show up_2 (hp_i g) r (k + (m + 1)) _ r j = _
        rw [up2_k (by omega)]; exact c1 j (by omega)) (fun j h1 h2 => by
        show up_2 (hp_i g) r (k + (m + 1)) _ r j = _
        by_cases e : j = k + (m + 1)
        · rw [e, up2_same, c1 (k + m) (by omega)]; rfl
        · rw [up2_k e]; exact c2 j (by omega) h2)
    refine ⟨g', q1, q2, q3, q4, q5, q6, q7, fun r' h1 h2 => ?_, q9, q10, q11, ?_⟩
    · rw [q8 r' h1 h2]; funext j
      show up_2 (hp_i g) r (k + (m + 1)) _ r' j = _
      rw [up2_r h2]
    · rw [q12]
      show up_2 (hp_i g) r (k + (m + 1)) _ 95 1 + 1 = _
      rw [up2_r (Ne.symm o3)]
/-- a row that is twice as long -/
def hcp (h : AH) (l : Nat) : AH := cp_r (st_n h 100 (2 * l)) (hp_r h 95 0) 0 (hp_n h) 0 l
theorem oc_72 (I : OI h L) (hx : x ∉ L) (hlt : L.length < hp_l h (hp_r h 95 0)) {k : Nat} (B : Bel L x k) : ∃ h', b_X3_add_72 95 x (nI k) h = some h' ∧ OI h' (rins x L) ∧ FA h h' := by
  obtain ⟨i1, i2, i3, i4, i5, i6, i7, i8⟩ := I
  have hk := B.1
  have h95 : hp_r h 95 0 ≠ 95 := oi_95 ⟨i1, i2, i3, i4, i5, i6, i7, i8⟩
  unfold b_X3_add_72
  rw [oi_i ⟨i1, i2, i3, i4, i5, i6, i7, i8⟩, Option.bind_some, oi_r ⟨i1, i2, i3, i4, i5, i6, i7, i8⟩, Option.bind_some, al_row i2, Option.bind_some, if_neg (nI_ge hlt (by omega))]
  unfold b_X3_add_84
  rw [oi_i ⟨i1, i2, i3, i4, i5, i6, i7, i8⟩, Option.bind_some]
  obtain ⟨g', q1, q2, q3, q4, q5, q6, q7, q8, q9, q10, q11, q12⟩ := oc_shift (f := hp_i h (hp_r h 95 0)) (n := L.length) (k := k) (by omega) x (L.length - k) (by omega) fu_ h (by unfold fu_; omega) i1 rfl h95 i2 hlt i4 (fun j _ => rfl) (fun j h1 h2 => by omega)
  rw [show k + (L.length - k) = L.length by omega] at q1
  obtain ⟨c1, c2, c3, c4⟩ := rins_get L k B hx
  have er : hp_r g' 95 0 = hp_r h 95 0 := by rw [q7]
  refine ⟨g', q1, ⟨?_, ?_, ?_, ?_, ?_, ?_, ?_, rins_srt L i8⟩, ?_⟩
  · exact ⟨by decide, by rw [q2]; exact i1.2.1, by rw [q4]; exact i1.2.2⟩
  · rw [er]; exact ⟨i2.1, by rw [q2]; exact i2.2.1, by rw [q4]; exact i2.2.2⟩
  · rw [er, q5]; exact i3
  · rw [er, q5]; exact i4
  · rw [er, q5, c1]; omega
  · intro i hi
    rw [c1] at hi
    rw [er]
    by_cases h1 : i < k
    · rw [q9 i h1, c2 i h1]; exact i6 i (by omega)
    · by_cases h2 : i = k
      · rw [h2, q10, c3]
      · rw [q11 i (by omega) (by omega), c4 i (by omega) (by omega)]; exact i6 (i - 1) (by omega)
  · rw [q12, i7, nI_1, c1]
  · refine ⟨by omega, fun r _ => ⟨by rw [q4], by rw [q5]⟩, fun r _ h1 h2 => q8 r h1 h2, fun r _ => by rw [q6], fun r _ _ => by rw [q7], Or.inl er, ?_, ?_⟩
    · rw [er, q5]; omega
    · rw [er, q5]; omega
theorem oc_add (I : OI h L) (hb : L.length ≤ 1024) : ∃ h', f_X3_add 95 x h = some h' ∧ OI h' (rins x L) ∧ FA h h' := by
  have I' := I
  obtain ⟨i1, i2, i3, i4, i5, i6, i7, i8⟩ := I
  have h95 : hp_r h 95 0 ≠ 95 := oi_95 I'
  obtain ⟨k, k1, k2⟩ := cb_eq (x := x) i2 (by omega) i5 i6 i8
  have hk := k2.1
  have go : x ∉ L → ∃ h', b_X3_add_32 95 x (nI k) h = some h' ∧ OI h' (rins x L) ∧ FA h h' := by
    intro hx
    unfold b_X3_add_32
    rw [oi_i I', Option.bind_some, oi_r I', Option.bind_some, al_row i2, Option.bind_some]
    by_cases hlt : L.length < hp_l h (hp_r h 95 0)
    · rw [if_pos (nI_lt hlt (by omega))]
      exact oc_72 I' hx hlt k2
    · rw [if_neg (nI_nlt (by omega) (by omega))]
      have hl : hp_l h (hp_r h 95 0) ≤ 1024 := by omega
      unfold b_X3_add_44
      rw [oi_r I', Option.bind_some, al_row i2, Option.bind_some, if_neg (show ¬ (65536 : Int32) ≤ nI (hp_l h (hp_r h 95 0)) from nI_ge (b := 65536) (by omega) (by omega))]
      unfold b_X3_add_54
      rw [oi_r I', Option.bind_some, Option.bind_some, al_row i2, Option.bind_some, show (2 : Int32) * nI (hp_l h (hp_r h 95 0)) = nI (2 * hp_l h (hp_r h 95 0)) from pk_mul 2 _]
      have n1 := i2.2.1
      have o2 : ok_o (st_n h 100 (2 * hp_l h (hp_r h 95 0))) (hp_r h 95 0) 100 := ⟨i2.1, by show _ < hp_n h + 1; omega, by show up_1 (hp_k h) (hp_n h) 100 (hp_r h 95 0) = 100; rw [up_ne (by omega)]; exact i2.2.2⟩
      have l2 : hp_l (st_n h 100 (2 * hp_l h (hp_r h 95 0))) (hp_r h 95 0) = hp_l h (hp_r h 95 0) := up_ne (by omega)
      have o3 : ok_o (st_n h 100 (2 * hp_l h (hp_r h 95 0))) (hp_n h) 100 := ⟨by have := i1.2.1; have := i1.1; omega, by show _ < hp_n h + 1; omega, up_same⟩
      have l3 : hp_l (st_n h 100 (2 * hp_l h (hp_r h 95 0))) (hp_n h) = 2 * hp_l h (hp_r h 95 0) := up_same
      have cpy : f_J7_copyOf_59c91 (hp_r h 95 0) (nI (2 * hp_l h (hp_r h 95 0))) h = some (hp_n h, hcp h (hp_l h (hp_r h 95 0))) := by
        unfold f_J7_copyOf_59c91 b_J7_copyOf_59c91_0
        rw [al_row i2, Option.bind_some, if_neg (by rw [nI_eq (by omega) (by omega)]; omega)]
        unfold b_J7_copyOf_59c91_14
        have e1 : n_a h 100 (nI (2 * hp_l h (hp_r h 95 0))) = some (st_n h 100 (2 * hp_l h (hp_r h 95 0))) := by
          have e : n_a h 100 (nI (2 * hp_l h (hp_r h 95 0))) = some (st_n h 100 (nI (2 * hp_l h (hp_r h 95 0))).toNatClampNeg) := if_pos ⟨nI_pos (by omega), by rw [nI_clamp (by omega)]; omega⟩
          rw [e, nI_clamp (by omega)]
        rw [e1, Option.bind_some, al_row o2, l2, Option.bind_some]
        have e2 : mn_i (nI (hp_l h (hp_r h 95 0))) (nI (2 * hp_l h (hp_r h 95 0))) = nI (hp_l h (hp_r h 95 0)) := by
          unfold mn_i
          rw [if_neg (nI_nlt (by omega) (by omega))]
        rw [e2]
        have e3 : cp_a (st_n h 100 (2 * hp_l h (hp_r h 95 0))) (hp_r h 95 0) 0 (hp_n h) 0 (nI (hp_l h (hp_r h 95 0))) = some (cp_r (st_n h 100 (2 * hp_l h (hp_r h 95 0))) (hp_r h 95 0) (0 : Int32).toNatClampNeg (hp_n h) (0 : Int32).toNatClampNeg (nI (hp_l h (hp_r h 95 0))).toNatClampNeg) := if_pos ⟨⟨o2, o3⟩, ⟨by decide, by decide, nI_pos (by omega)⟩, by rw [nI_clamp (by omega), l2, show (0 : Int32).toNatClampNeg = 0 from rfl]; omega, by rw [nI_clamp (by omega), l3, show (0 : Int32).toNatClampNeg = 0 from rfl]; omega⟩
        rw [e3, nI_clamp (by omega), Option.bind_some]
        rfl
      rw [cpy, Option.bind_some]
      have kcp : ok_o (hcp h (hp_l h (hp_r h 95 0))) 95 3 := ⟨by decide, by show 95 < hp_n h + 1; have := i1.2.1; omega, by show up_1 (hp_k h) (hp_n h) 100 95 = 3; rw [up_ne (by have := i1.2.1; omega)]; exact i1.2.2⟩
      rw [show p_r (hcp h (hp_l h (hp_r h 95 0))) 95 3 0 (hp_n h) = some (st_r (hcp h (hp_l h (hp_r h 95 0))) 95 0 (hp_n h)) from if_pos kcp, Option.bind_some]
      have n95 := i1.2.1
      have er : hp_r (st_r (hcp h (hp_l h (hp_r h 95 0))) 95 0 (hp_n h)) 95 0 = hp_n h := by
        show up_2 (hp_r (hcp h (hp_l h (hp_r h 95 0)))) 95 0 (hp_n h) 95 0 = _
        exact up2_same
      have hI : ∀ r, r < hp_n h → hp_i (st_r (hcp h (hp_l h (hp_r h 95 0))) 95 0 (hp_n h)) r = hp_i h r := fun r hr => by
        show up_1 (up_1 (hp_i h) (hp_n h) (fun _ => 0)) (hp_n h) _ r = _
        rw [up_ne (by omega), up_ne (by omega)]
      have hrow : ∀ i, i < hp_l h (hp_r h 95 0) → hp_i (st_r (hcp h (hp_l h (hp_r h 95 0))) 95 0 (hp_n h)) (hp_n h) i = hp_i h (hp_r h 95 0) i := fun i hi => by
        show up_1 (up_1 (hp_i h) (hp_n h) (fun _ => 0)) (hp_n h) (va_cpy (up_1 (hp_i h) (hp_n h) (fun _ => 0) (hp_r h 95 0)) (up_1 (hp_i h) (hp_n h) (fun _ => 0) (hp_n h)) 0 0 (hp_l h (hp_r h 95 0))) (hp_n h) i = _
        rw [up_same, pk_cpy_in (by omega) (by omega), up_ne (by omega)]
        congr 1
        omega
      have I2 : OI (st_r (hcp h (hp_l h (hp_r h 95 0))) 95 0 (hp_n h)) L := by
        refine ⟨kcp, ?_, ?_, ?_, ?_, ?_, ?_, i8⟩
        · rw [er]; exact o3
        · rw [er]; show 64 ≤ up_1 (hp_l h) (hp_n h) _ (hp_n h); rw [up_same]; omega
        · rw [er]; show up_1 (hp_l h) (hp_n h) _ (hp_n h) ≤ _; rw [up_same]; omega
        · rw [er]; show _ ≤ up_1 (hp_l h) (hp_n h) _ (hp_n h); rw [up_same]; omega
        · intro i hi
          rw [er, hrow i (by omega)]; exact i6 i hi
        · rw [hI 95 n95]; exact i7
      have l4 : hp_l (st_r (hcp h (hp_l h (hp_r h 95 0))) 95 0 (hp_n h)) (hp_n h) = 2 * hp_l h (hp_r h 95 0) := up_same
      obtain ⟨h', r1, r2, r3⟩ := oc_72 (k := k) I2 hx (by rw [er, l4]; omega) k2
      refine ⟨h', r1, r2, ?_⟩
      obtain ⟨a1, a2, a3, a4, a5, a6, a7, a8⟩ := r3
      rw [er] at a3 a6 a7 a8
      have hn : hp_n (st_r (hcp h (hp_l h (hp_r h 95 0))) 95 0 (hp_n h)) = hp_n h + 1 := rfl
      have hss : hp_s (st_r (hcp h (hp_l h (hp_r h 95 0))) 95 0 (hp_n h)) = hp_s h + 2 * hp_l h (hp_r h 95 0) := rfl
      rw [l4, hn] at a7
      rw [l4, hss] at a8
      rw [hn] at a1 a6
      refine ⟨by omega, fun r hr => ?_, fun r hr h1 h2 => ?_, fun r hr => ?_, fun r hr h1 => ?_, ?_, by omega, by omega⟩
      · have := a2 r (by rw [hn]; omega)
        rw [this.1, this.2]
        exact ⟨up_ne (by omega), up_ne (by omega)⟩
      · rw [a3 r (by rw [hn]; omega) h1 (by omega)]; exact hI r hr
      · rw [a4 r (by rw [hn]; omega)]; exact up_ne (by omega)
      · rw [a5 r (by rw [hn]; omega) h1]
        funext j
        show up_2 (up_1 (hp_r h) (hp_n h) (fun _ => 0)) 95 0 (hp_n h) r j = _
        rw [up2_r h1, up_ne (by omega)]
      · obtain e | e := a6
        · rw [e]; exact Or.inr (Nat.le_refl _)
        · exact Or.inr (by omega)
  unfold f_X3_add b_X3_add_0
  rw [oi_r I', Option.bind_some, oi_i I', Option.bind_some, k1, Option.bind_some, oi_i I', Option.bind_some]
  by_cases hkl : L.length ≤ k
  · rw [if_pos (nI_le hkl (by omega))]
    exact go (fun hm => by have := (bel_mem i8 k2).mp hm; omega)
  · rw [if_neg (nI_ge (by omega) (by omega))]
    unfold b_X3_add_21
    rw [oi_r I', Option.bind_some, li_row i2 (by omega) (by omega), Option.bind_some, i6 k (by omega)]
    by_cases he : L.getD k 0 = x
    · rw [if_pos he]
      have hm : x ∈ L := (bel_mem i8 k2).mpr ⟨by omega, he⟩
      rw [rins_eq L i8 hm]
      exact ⟨h, rfl, I', FA_rf⟩
    · rw [if_neg he]
      exact go (fun hm => he ((bel_mem i8 k2).mp hm).2)
/-- holds(): is x in a sorted row -/
theorem oc_holds {r : Nat} (ok : ok_o h r 100) (hl : hp_l h r ≤ 2 ^ 29) (hL : L.length = hp_l h r) (R : RowIs (hp_i h r) L) (S : srt L) : (x ∈ L ∧ f_X3_holds r x h = some (1, h)) ∨ (x ∉ L ∧ f_X3_holds r x h = some (0, h)) := by
  obtain ⟨k, k1, k2⟩ := cb_eq (x := x) ok hl (by omega) R S
  have hk := k2.1
  unfold f_X3_holds b_X3_holds_0
  rw [al_row ok, Option.bind_some, ← hL, k1, Option.bind_some, al_row ok, Option.bind_some, ← hL]
  by_cases hkl : L.length ≤ k
  · rw [if_pos (nI_le hkl (by omega))]
    exact Or.inr ⟨fun hm => by have := (bel_mem S k2).mp hm; omega, ok_z_0⟩
  · rw [if_neg (nI_ge (by omega) (by omega))]
    unfold b_X3_holds_14
    rw [li_row ok (by omega) (by omega), Option.bind_some, R k (by omega)]
    by_cases he : L.getD k 0 = x
    · rw [if_pos he]
      exact Or.inl ⟨(bel_mem S k2).mpr ⟨by omega, he⟩, ok_z_1⟩
    · rw [if_neg he]
      exact Or.inr ⟨fun hm => he ((bel_mem S k2).mp hm).2, ok_z_0⟩
end
