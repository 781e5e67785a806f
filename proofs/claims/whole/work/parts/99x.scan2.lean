/-! ===== the class's scanner: a token, the whole row, going on ===== -/
section
variable {h : AH} {tp : Nat → Nat} {n : Nat} {f t : Nat → Int32} {k p q : Nat}
theorem c_lt {b k : Nat} (hb : b < 2 ^ 31) (hk : k < 2 ^ 31) : nI b < nI k ↔ b < k := nI_ltI hb hk
theorem z_word (X : XC h n tp) (h1 : f 1 = -1) (h2 : f 2 = nI p) (h4 : f 4 = nI n) (h5 : f 5 = nI q) (hpq : p < q) (hq : q ≤ n) : ∃ f', b_X7_scanWord_39 69 (sI (sI h 70 t) 69 f) = some (sI (sI h 70 t) 69 f') ∧ f' 0 = nI (ckd (wcode (wbs tp p q))) ∧ f' 1 + 1 = nI (cw1 (wcode (wbs tp p q))) ∧ ∀ k, k ≠ 0 → k ≠ 1 → f' k = f k := by
  have hn := X.2.2.2.2.1
  have hc := X.2.2.2.2.2.1 p (by omega)
  have hlen : (wbs tp p q).length = q - p := wbs_l
  have g0 : (wbs tp p q).getD 0 0 = tp p := by rw [wbs_g (by omega)]; rfl
  have sub : ∀ b k : Nat, k ≤ b → nI b - nI k = nI (b - k) := fun b k hk => pk_sub hk
  have z0 : (-1 : Int32) + 1 = nI 0 := by decide
  have fin1 : ∀ (w kd : Nat), ckd (wcode (wbs tp p q)) = kd → cw1 (wcode (wbs tp p q)) = w + 1 → up_1 (up_1 f 1 (nI w)) 0 (nI kd) 0 = nI (ckd (wcode (wbs tp p q))) ∧ up_1 (up_1 f 1 (nI w)) 0 (nI kd) 1 + 1 = nI (cw1 (wcode (wbs tp p q))) ∧ ∀ k, k ≠ 0 → k ≠ 1 → up_1 (up_1 f 1 (nI w)) 0 (nI kd) k = f k := fun w kd e1 e2 => by
    refine ⟨by rw [up_same, e1], by rw [up_ne (by decide), up_same, da, e2], fun k k0 k1 => by rw [up_ne k0, up_ne k1]⟩
  have fin0 : ∀ (kd : Nat), ckd (wcode (wbs tp p q)) = kd → cw1 (wcode (wbs tp p q)) = 0 → up_1 f 0 (nI kd) 0 = nI (ckd (wcode (wbs tp p q))) ∧ up_1 f 0 (nI kd) 1 + 1 = nI (cw1 (wcode (wbs tp p q))) ∧ ∀ k, k ≠ 0 → k ≠ 1 → up_1 f 0 (nI kd) k = f k := fun kd e1 e2 => by
    refine ⟨by rw [up_same, e1], by rw [up_ne (by decide), h1, e2, z0], fun k k0 k1 => up_ne k0⟩
  unfold b_X7_scanWord_39
  rw [z_g X, Option.bind_some, h5, z_g X, Option.bind_some, h2, sub q p (by omega)]
  have d1 : nI (q - p) = 1 ↔ q - p = 1 := nI_eq (b := 1) (by omega) (by omega)
  have d2 : nI (q - p) = 2 ↔ q - p = 2 := nI_eq (b := 2) (by omega) (by omega)
  by_cases c1 : q - p = 1
  · rw [if_pos (d1.mpr c1)]
    unfold b_X7_scanWord_76
    rw [z_r3 X, Option.bind_some, z_g X, Option.bind_some, h2, z_t X (by omega), Option.bind_some, z_v X, Option.bind_some]
    have wc : wcode (wbs tp p q) = wbase (wbs tp p q) := wc_1 (by rw [hlen]; exact c1)
    have wb : wbase (wbs tp p q) = if 117 ≤ tp p ∧ tp p ≤ 122 then 300 + (tp p - 117) else if 48 ≤ tp p ∧ tp p ≤ 57 then 600 + (tp p - 48) else 100 := by
      unfold wbase
      rw [hlen, g0]
      by_cases k1 : 117 ≤ tp p ∧ tp p ≤ 122
      · rw [if_pos ⟨c1, k1⟩, if_pos k1]
      · rw [if_neg (fun x => k1 x.2), if_neg k1]
        by_cases k2 : 48 ≤ tp p ∧ tp p ≤ 57
        · rw [if_pos ⟨c1, k2⟩, if_pos k2]
        · rw [if_neg (fun x => k2 x.2), if_neg k2, if_neg (by omega), if_neg (by omega)]
    have l48 : nI (tp p) < 48 ↔ tp p < 48 := c_lt (k := 48) (by omega) (by omega)
    have l57 : (57 : Int32) < nI (tp p) ↔ 57 < tp p := c_lt (b := 57) (by omega) (by omega)
    have l117 : nI (tp p) < 117 ↔ tp p < 117 := c_lt (k := 117) (by omega) (by omega)
    have l122 : (122 : Int32) < nI (tp p) ↔ 122 < tp p := c_lt (b := 122) (by omega) (by omega)
    have b23 : ¬ (48 ≤ tp p ∧ tp p ≤ 57) → ∃ f', ((b_X7_nameOfOne_23 69 (nI (tp p)) (sI (sI h 70 t) 69 f)).bind fun q5 => (p_i q5.2 69 7 0 q5.1).bind fun h6 => b_X7_scanWord_152 h6) = some (sI (sI h 70 t) 69 f') ∧ f' 0 = nI (ckd (wcode (wbs tp p q))) ∧ f' 1 + 1 = nI (cw1 (wcode (wbs tp p q))) ∧ ∀ k, k ≠ 0 → k ≠ 1 → f' k = f k := fun kd => by
      have bad : ¬ (117 ≤ tp p ∧ tp p ≤ 122) → ∃ f', ((b_X7_nameOfOne_46 (sI (sI h 70 t) 69 f)).bind fun q5 => (p_i q5.2 69 7 0 q5.1).bind fun h6 => b_X7_scanWord_152 h6) = some (sI (sI h 70 t) 69 f') ∧ f' 0 = nI (ckd (wcode (wbs tp p q))) ∧ f' 1 + 1 = nI (cw1 (wcode (wbs tp p q))) ∧ ∀ k, k ≠ 0 → k ≠ 1 → f' k = f k := fun kc => by
        have e : wcode (wbs tp p q) = 100 := by rw [wc, wb, if_neg kc, if_neg kd]
        unfold b_X7_nameOfOne_46
        rw [Option.bind_some, z_p X, Option.bind_some]
        exact ⟨_, rfl, fin0 1 (by rw [e]; rfl) (by rw [e]; rfl)⟩
      unfold b_X7_nameOfOne_23
      by_cases k1 : tp p < 117
      · rw [if_pos (l117.mpr k1)]
        exact bad (by omega)
      · rw [if_neg (fun x => k1 (l117.mp x))]
        unfold b_X7_nameOfOne_29
        by_cases k2 : 122 < tp p
        · rw [if_pos (l122.mpr k2)]
          exact bad (by omega)
        · rw [if_neg (fun x => k2 (l122.mp x))]
          unfold b_X7_nameOfOne_35
          have e : wcode (wbs tp p q) = 300 + (tp p - 117) := by rw [wc, wb, if_pos ⟨by omega, by omega⟩]
          rw [show (117 : Int32) = nI 117 from rfl, sub (tp p) 117 (by omega), z_p X, Option.bind_some, Option.bind_some, z_p X, Option.bind_some]
          refine ⟨_, rfl, fin1 (tp p - 117) 11 ?_ ?_⟩
          · rw [e]; unfold ckd; rw [if_neg (by omega), if_neg (by omega), if_neg (by omega), if_pos (by omega)]
          · rw [e]; unfold cw1; rw [if_pos ⟨by omega, by omega⟩]; omega
    unfold f_X7_nameOfOne b_X7_nameOfOne_0
    by_cases k1 : tp p < 48
    · rw [if_pos (l48.mpr k1)]
      exact b23 (by omega)
    · rw [if_neg (fun x => k1 (l48.mp x))]
      unfold b_X7_nameOfOne_6
      by_cases k2 : 57 < tp p
      · rw [if_pos (l57.mpr k2)]
        exact b23 (by omega)
      · rw [if_neg (fun x => k2 (l57.mp x))]
        unfold b_X7_nameOfOne_12
        have e : wcode (wbs tp p q) = 600 + (tp p - 48) := by rw [wc, wb, if_neg (by omega), if_pos ⟨by omega, by omega⟩]
        rw [show (48 : Int32) = nI 48 from rfl, sub (tp p) 48 (by omega), z_p X, Option.bind_some, Option.bind_some, z_p X, Option.bind_some]
        refine ⟨_, rfl, fin1 (tp p - 48) 14 ?_ ?_⟩
        · rw [e]; unfold ckd; rw [if_neg (by omega), if_neg (by omega), if_neg (by omega), if_neg (by omega), if_neg (by omega), if_neg (by omega), if_pos (by omega)]
        · rw [e]; unfold cw1; rw [if_pos ⟨by omega, by omega⟩]; omega
  · rw [if_neg (fun x => c1 (d1.mp x))]
    by_cases c2 : q - p = 2
    · rw [if_pos (d2.mpr c2)]
      unfold b_X7_scanWord_96
      rw [z_g X, Option.bind_some, h2, z_g X, Option.bind_some, h4, da, if_neg (nI_ge (by omega) (by omega))]
      unfold b_X7_scanWord_110
      rw [z_r3 X, Option.bind_some, z_g X, Option.bind_some, h2, z_t X (by omega), Option.bind_some, Option.bind_some, Option.bind_some, da, z_t X (by omega), Option.bind_some, z_v X, Option.bind_some]
      have hd := X.2.2.2.2.2.1 (p + 1) (by omega)
      have g1 : (wbs tp p q).getD 1 0 = tp (p + 1) := wbs_g (by omega)
      have wc : wcode (wbs tp p q) = if [105, 102] = wbs tp p q then 207 else wbase (wbs tp p q) := wc_2 (by rw [hlen]; exact c2)
      have ifw : [105, 102] = wbs tp p q ↔ tp p = 105 ∧ tp (p + 1) = 102 := by
        constructor
        · intro e; rw [← g0, ← g1, ← e]; exact ⟨rfl, rfl⟩
        · intro ⟨e1, e2⟩
          refine List.ext_getElem (by rw [hlen, c2]; rfl) (fun i h1 h2 => ?_)
          have hi : i = 0 ∨ i = 1 := by have : i < 2 := h1; omega
          have gg := wbs_g (tp := tp) (p := p) (q := q) (k := i) (by rw [hlen] at h2; omega)
          rw [List.getD_eq_getElem?_getD, List.getElem?_eq_getElem h2] at gg
          have gg' : (wbs tp p q)[i] = tp (p + i) := gg
          rw [gg']
          obtain rfl | rfl := hi
          · exact e1.symm
          · exact e2.symm
      have wb : wbase (wbs tp p q) = if tp p = 114 ∧ 48 ≤ tp (p + 1) ∧ tp (p + 1) ≤ 52 then 400 + (tp (p + 1) - 48) else if tp p = 109 ∧ 48 ≤ tp (p + 1) ∧ tp (p + 1) ≤ 49 then 500 + (tp (p + 1) - 48) else 100 := by
        unfold wbase
        rw [hlen, g0, g1, if_neg (by omega), if_neg (by omega)]
        by_cases k1 : tp p = 114 ∧ 48 ≤ tp (p + 1) ∧ tp (p + 1) ≤ 52
        · rw [if_pos ⟨c2, k1⟩, if_pos k1]
        · rw [if_neg (fun x => k1 x.2), if_neg k1]
          by_cases k2 : tp p = 109 ∧ 48 ≤ tp (p + 1) ∧ tp (p + 1) ≤ 49
          · rw [if_pos ⟨c2, k2⟩, if_pos k2]
          · rw [if_neg (fun x => k2 x.2), if_neg k2]
      have e114 : nI (tp p) = 114 ↔ tp p = 114 := nI_eq (b := 114) (by omega) (by omega)
      have e109 : nI (tp p) = 109 ↔ tp p = 109 := nI_eq (b := 109) (by omega) (by omega)
      have e105 : nI (tp p) = 105 ↔ tp p = 105 := nI_eq (b := 105) (by omega) (by omega)
      have e102 : nI (tp (p + 1)) = 102 ↔ tp (p + 1) = 102 := nI_eq (b := 102) (by omega) (by omega)
      have dneg : tp (p + 1) < 48 → nI (tp (p + 1)) - 48 < 0 := fun hh => pk_sneg (b := 48) (by omega) hh
      have dpos : 48 ≤ tp (p + 1) → nI (tp (p + 1)) - 48 = nI (tp (p + 1) - 48) := fun hh => sub _ 48 hh
      have b51 : wcode (wbs tp p q) = (if [105, 102] = wbs tp p q then 207 else 100) → ∃ f', ((b_X7_nameOfTwo_51 (nI (tp p)) (nI (tp (p + 1))) (sI (sI h 70 t) 69 f)).bind fun q8 => b_X7_scanWord_138 69 q8.1 q8.2) = some (sI (sI h 70 t) 69 f') ∧ f' 0 = nI (ckd (wcode (wbs tp p q))) ∧ f' 1 + 1 = nI (cw1 (wcode (wbs tp p q))) ∧ ∀ k, k ≠ 0 → k ≠ 1 → f' k = f k := fun e => by
        have bad : ¬ (tp p = 105 ∧ tp (p + 1) = 102) → ∃ f', ((b_X7_nameOfTwo_68 (sI (sI h 70 t) 69 f)).bind fun q8 => b_X7_scanWord_138 69 q8.1 q8.2) = some (sI (sI h 70 t) 69 f') ∧ f' 0 = nI (ckd (wcode (wbs tp p q))) ∧ f' 1 + 1 = nI (cw1 (wcode (wbs tp p q))) ∧ ∀ k, k ≠ 0 → k ≠ 1 → f' k = f k := fun kn => by
          rw [if_neg (fun x => kn (ifw.mp x))] at e
          unfold b_X7_nameOfTwo_68 b_X7_nameOfTwo_69
          rw [Option.bind_some]
          unfold b_X7_scanWord_138
          rw [z_p X, Option.bind_some]
          exact ⟨_, rfl, fin0 1 (by rw [e]; rfl) (by rw [e]; rfl)⟩
        unfold b_X7_nameOfTwo_51
        by_cases k1 : tp p = 105
        · rw [if_pos (e105.mpr k1)]
          unfold b_X7_nameOfTwo_57
          by_cases k2 : tp (p + 1) = 102
          · rw [if_pos (e102.mpr k2)]
            rw [if_pos (ifw.mpr ⟨k1, k2⟩)] at e
            unfold b_X7_nameOfTwo_63 b_X7_nameOfTwo_69
            rw [Option.bind_some]
            unfold b_X7_scanWord_138
            rw [z_p X, Option.bind_some]
            exact ⟨_, rfl, fin0 9 (by rw [e]; rfl) (by rw [e]; rfl)⟩
          · rw [if_neg (fun x => k2 (e102.mp x))]
            exact bad (fun x => k2 x.2)
        · rw [if_neg (fun x => k1 (e105.mp x))]
          exact bad (fun x => k1 x.1)
      have b28 : ¬ (tp p = 114 ∧ 48 ≤ tp (p + 1) ∧ tp (p + 1) ≤ 52) → ∃ f', ((b_X7_nameOfTwo_28 69 (nI (tp p)) (nI (tp (p + 1))) (nI (tp (p + 1)) - 48) (sI (sI h 70 t) 69 f)).bind fun q8 => b_X7_scanWord_138 69 q8.1 q8.2) = some (sI (sI h 70 t) 69 f') ∧ f' 0 = nI (ckd (wcode (wbs tp p q))) ∧ f' 1 + 1 = nI (cw1 (wcode (wbs tp p q))) ∧ ∀ k, k ≠ 0 → k ≠ 1 → f' k = f k := fun kr => by
        have eno : ¬ (tp p = 109 ∧ 48 ≤ tp (p + 1) ∧ tp (p + 1) ≤ 49) → wcode (wbs tp p q) = (if [105, 102] = wbs tp p q then 207 else 100) := fun kn => by rw [wc, wb, if_neg kr, if_neg kn]
        unfold b_X7_nameOfTwo_28
        by_cases k1 : tp p = 109
        · rw [if_pos (e109.mpr k1)]
          unfold b_X7_nameOfTwo_34
          by_cases k2 : tp (p + 1) < 48
          · rw [if_pos (dneg k2)]
            exact b51 (eno (by omega))
          · rw [dpos (by omega), if_neg (nI_pos (by omega))]
            unfold b_X7_nameOfTwo_38
            by_cases k3 : 2 ≤ tp (p + 1) - 48
            · rw [if_pos (show (2 : Int32) ≤ nI (tp (p + 1) - 48) from nI_le (a := 2) k3 (by omega))]
              exact b51 (eno (by omega))
            · rw [if_neg (show ¬ (2 : Int32) ≤ nI (tp (p + 1) - 48) from nI_ge (b := 2) (by omega) (by omega))]
              unfold b_X7_nameOfTwo_43
              have e : wcode (wbs tp p q) = 500 + (tp (p + 1) - 48) := by rw [wc, if_neg (fun x => by have := (ifw.mp x).1; omega), wb, if_neg kr, if_pos ⟨k1, by omega, by omega⟩]
              rw [z_p X, Option.bind_some, Option.bind_some]
              unfold b_X7_scanWord_138
              rw [z_p X, Option.bind_some]
              refine ⟨_, rfl, fin1 (tp (p + 1) - 48) 13 ?_ ?_⟩
              · rw [e]; unfold ckd; rw [if_neg (by omega), if_neg (by omega), if_neg (by omega), if_neg (by omega), if_neg (by omega), if_pos (by omega)]
              · rw [e]; unfold cw1; rw [if_pos ⟨by omega, by omega⟩]; omega
        · rw [if_neg (fun x => k1 (e109.mp x))]
          exact b51 (eno (fun x => k1 x.1))
      unfold f_X7_nameOfTwo b_X7_nameOfTwo_0
      by_cases k1 : tp p = 114
      · rw [if_pos (e114.mpr k1)]
        unfold b_X7_nameOfTwo_11
        by_cases k2 : tp (p + 1) < 48
        · rw [if_pos (dneg k2)]
          exact b28 (by omega)
        · rw [if_neg (by rw [dpos (by omega)]; exact nI_pos (by omega))]
          unfold b_X7_nameOfTwo_15
          by_cases k3 : 5 ≤ tp (p + 1) - 48
          · rw [if_pos (by rw [dpos (by omega)]; exact nI_le (a := 5) k3 (by omega))]
            exact b28 (by omega)
          · rw [if_neg (by rw [dpos (by omega)]; exact nI_ge (b := 5) (by omega) (by omega))]
            unfold b_X7_nameOfTwo_20
            have e : wcode (wbs tp p q) = 400 + (tp (p + 1) - 48) := by rw [wc, if_neg (fun x => by have := (ifw.mp x).1; omega), wb, if_pos ⟨k1, by omega, by omega⟩]
            rw [dpos (by omega), z_p X, Option.bind_some, Option.bind_some]
            unfold b_X7_scanWord_138
            rw [z_p X, Option.bind_some]
            refine ⟨_, rfl, fin1 (tp (p + 1) - 48) 12 ?_ ?_⟩
            · rw [e]; unfold ckd; rw [if_neg (by omega), if_neg (by omega), if_neg (by omega), if_neg (by omega), if_pos (by omega)]
            · rw [e]; unfold cw1; rw [if_pos ⟨by omega, by omega⟩]; omega
      · rw [if_neg (fun x => k1 (e114.mp x))]
        exact b28 (fun x => k1 x.1)
    · rw [if_neg (fun x => c2 (d2.mp x))]
      unfold b_X7_scanWord_144
      obtain ⟨e1, e2⟩ := z_long (t := t) X h2 h4 h5 (by omega) hq (by omega)
      rw [z_v X, Option.bind_some, e1, Option.bind_some, z_p X, Option.bind_some]
      exact ⟨_, rfl, fin0 _ rfl e2⟩
theorem z_sign {b : Nat} (X : XC h n tp) (hp : p < n) (hb : tp p = b) (h1 : f 1 = -1) (h4 : f 4 = nI n) (h5 : f 5 = nI p) : ∃ f', f_X7_scanSign 69 (nI b) (sI (sI h 70 t) 69 f) = some (sI (sI h 70 t) 69 f') ∧ f' 0 = nI (ckd (scode b (decide (p + 1 < n) && decide (tp (p + 1) = 61)))) ∧ f' 1 + 1 = nI (cw1 (scode b (decide (p + 1 < n) && decide (tp (p + 1) = 61)))) ∧ f' 5 = nI (p + if scode b (decide (p + 1 < n) && decide (tp (p + 1) = 61)) = 702 then 2 else 1) ∧ ∀ k, k ≠ 0 → k ≠ 5 → f' k = f k := by
  have hn := X.2.2.2.2.1
  have hb2 : b < 256 := by rw [← hb]; exact X.2.2.2.2.2.1 p hp
  have z0 : (-1 : Int32) + 1 = nI 0 := by decide
  have e43 : nI b = 43 ↔ b = 43 := nI_eq (b := 43) (by omega) (by omega)
  have e46 : nI b = 46 ↔ b = 46 := nI_eq (b := 46) (by omega) (by omega)
  have e59 : nI b = 59 ↔ b = 59 := nI_eq (b := 59) (by omega) (by omega)
  have e61 : nI b = 61 ↔ b = 61 := nI_eq (b := 61) (by omega) (by omega)
  have e123 : nI b = 123 ↔ b = 123 := nI_eq (b := 123) (by omega) (by omega)
  have e125 : nI b = 125 ↔ b = 125 := nI_eq (b := 125) (by omega) (by omega)
  have st : ∀ G, f_X7_signToken (nI b) G = some (nI (ckd (scode b false)), G) ∧ (scode b false = 701 ↔ b = 61) := fun G => by
    unfold f_X7_signToken b_X7_signToken_0 scode
    by_cases k1 : b = 59
    · subst k1; exact ⟨rfl, by decide⟩
    · by_cases k2 : b = 61
      · subst k2; exact ⟨rfl, by decide⟩
      · by_cases k3 : b = 46
        · subst k3; exact ⟨rfl, by decide⟩
        · by_cases k4 : b = 43
          · subst k4; exact ⟨rfl, by decide⟩
          · by_cases k5 : b = 123
            · subst k5; exact ⟨rfl, by decide⟩
            · by_cases k6 : b = 125
              · subst k6; exact ⟨rfl, by decide⟩
              · rw [if_neg (fun x => k4 (e43.mp x)), if_neg (fun x => k3 (e46.mp x)), if_neg (fun x => k1 (e59.mp x)), if_neg (fun x => k2 (e61.mp x)), if_neg (fun x => k5 (e123.mp x)), if_neg (fun x => k6 (e125.mp x)), if_neg k1, if_neg k2, if_neg k3, if_neg k4, if_neg k5, if_neg k6]
                exact ⟨rfl, ⟨fun x => absurd x (by decide), fun x => absurd x k2⟩⟩
  have cw0 : ∀ e, cw1 (scode b e) = 0 := fun e => by
    have : 700 ≤ scode b e ∨ scode b e = 100 := by
      unfold scode
      split
      · omega
      · split
        · split <;> omega
        · split
          · omega
          · split
            · omega
            · split
              · omega
              · split <;> omega
    unfold cw1
    rw [if_neg (by omega)]
  unfold f_X7_scanSign b_X7_scanSign_0
  rw [z_g X, Option.bind_some, h5, da, z_p X, Option.bind_some, (st _).1, Option.bind_some, z_p X, Option.bind_some, z_g X, Option.bind_some, up_same]
  have g1 : up_1 (up_1 f 5 (nI (p + 1))) 0 (nI (ckd (scode b false))) 1 = -1 := by rw [up_ne (by decide), up_ne (by decide)]; exact h1
  have g5 : up_1 (up_1 f 5 (nI (p + 1))) 0 (nI (ckd (scode b false))) 5 = nI (p + 1) := by rw [up_ne (by decide), up_same]
  have g4 : up_1 (up_1 f 5 (nI (p + 1))) 0 (nI (ckd (scode b false))) 4 = nI n := by rw [up_ne (by decide), up_ne (by decide)]; exact h4
  have plain : ∀ e, scode b e = scode b false → ∃ f', some (sI (sI h 70 t) 69 (up_1 (up_1 f 5 (nI (p + 1))) 0 (nI (ckd (scode b false))))) = some (sI (sI h 70 t) 69 f') ∧ f' 0 = nI (ckd (scode b e)) ∧ f' 1 + 1 = nI (cw1 (scode b e)) ∧ f' 5 = nI (p + if scode b e = 702 then 2 else 1) ∧ ∀ k, k ≠ 0 → k ≠ 5 → f' k = f k := fun e he => by
    have n702 : ¬ scode b false = 702 := by
      unfold scode
      split
      · decide
      · split
        · decide
        · split
          · decide
          · split
            · decide
            · split
              · decide
              · split <;> decide
    refine ⟨_, rfl, by rw [up_same, he], by rw [g1, cw0, z0], by rw [he, if_neg n702]; exact g5, fun k k0 k5 => by rw [up_ne k0, up_ne k5]⟩
  by_cases c61 : b = 61
  · have e16 : nI (ckd (scode b false)) = 16 := by rw [c61]; rfl
    rw [if_pos e16]
    unfold b_X7_scanSign_27
    rw [z_g X, Option.bind_some, g5, z_g X, Option.bind_some, g4]
    by_cases cn : p + 1 < n
    · rw [if_neg (nI_ge cn (by omega))]
      unfold b_X7_scanSign_38
      have hc := X.2.2.2.2.2.1 (p + 1) cn
      have ee : nI (tp (p + 1)) = 61 ↔ tp (p + 1) = 61 := nI_eq (b := 61) (by omega) (by omega)
      rw [z_r3 X, Option.bind_some, z_g X, Option.bind_some, g5, z_t X cn, Option.bind_some]
      by_cases c2 : tp (p + 1) = 61
      · rw [if_pos (ee.mpr c2), decide_eq_true cn, decide_eq_true c2]
        unfold b_X7_scanSign_52
        have e702 : scode b (true && true) = 702 := by rw [c61]; rfl
        rw [z_g X, Option.bind_some, g5, da, z_p X, Option.bind_some, z_p X, Option.bind_some, e702]
        refine ⟨_, rfl, by rw [up_same]; rfl, ?_, ?_, fun k k0 k5 => ?_⟩
        · rw [up_ne (by decide), up_ne (by decide), g1]; rfl
        · rw [up_ne (by decide), up_same, if_pos rfl]
        · rw [up_ne k0, up_ne k5, up_ne k0, up_ne k5]
      · rw [if_neg (fun x => c2 (ee.mp x)), decide_eq_false c2, Bool.and_false]
        exact plain false rfl
    · rw [if_pos (nI_le (by omega) (by omega)), decide_eq_false cn, Bool.false_and]
      exact plain false rfl
  · have : ∀ e, scode b e = scode b false := fun e => by
      unfold scode
      rw [if_neg c61, if_neg c61]
    have n16 : ¬ nI (ckd (scode b false)) = 16 := fun x => by
      have h701 := (st h).2
      have hck : ckd (scode b false) ≠ 16 ∧ ckd (scode b false) < 100 := by
        unfold scode
        rw [if_neg c61]
        split
        · decide
        · split
          · decide
          · split
            · decide
            · split
              · decide
              · split <;> decide
      obtain ⟨y1, y2⟩ := hck
      exact y1 ((nI_eq (b := 16) (by omega) (by omega)).mp x)
    rw [if_neg n16]
    exact plain _ (this _)
theorem shl16 {p : Nat} (hp : p ≤ 1000) : nI p <<< ((16 : Int32) &&& 31) = nI (p * 65536) := pk_shlN _ 16 (by decide) (by omega)
theorem shl8 {p : Nat} (hp : p ≤ 1000) : nI p <<< ((8 : Int32) &&& 31) = nI (p * 256) := pk_shlN _ 8 (by decide) (by omega)
theorem enc_or {p w k : Nat} (hp : p ≤ 1000) (hw : w ≤ 100) (hk : k < 256) : (nI (p * 65536) ||| nI (w * 256)) ||| nI k = nI (p * 65536 + w * 256 + k) := by
  rw [nI_or (by omega) (by omega)]
  have e1 : p * 65536 ||| w * 256 = p * 65536 + w * 256 := by
    have := Nat.two_pow_add_eq_or_of_lt (i := 16) (b := w * 256) (by omega) p
    rw [show 2 ^ 16 * p = p * 65536 by omega] at this
    exact this.symm
  rw [e1, nI_or (by omega) (by omega)]
  have e2 : p * 65536 + w * 256 ||| k = p * 65536 + w * 256 + k := by
    have := Nat.two_pow_add_eq_or_of_lt (i := 8) (b := k) (by omega) (p * 256 + w)
    rw [show 2 ^ 8 * (p * 256 + w) = p * 65536 + w * 256 by omega] at this
    exact this.symm
  rw [e2]
theorem ckd_lt (c : Nat) : ckd c < 256 ∨ 300 ≤ c ∧ False ∨ (c < 300 ∧ ckd c = c - 198) := by
  unfold ckd
  by_cases c1 : c = 0
  · rw [if_pos c1]; omega
  · rw [if_neg c1]
    by_cases c2 : c = 100
    · rw [if_pos c2]; omega
    · rw [if_neg c2]
      by_cases c3 : c < 300
      · rw [if_pos c3]; omega
      · rw [if_neg c3]
        left
        split
        · omega
        · split
          · omega
          · split
            · omega
            · split
              · omega
              · split
                · omega
                · split
                  · omega
                  · split
                    · omega
                    · split
                      · omega
                      · split
                        · omega
                        · split <;> omega
theorem ckd_256 (c : Nat) : ckd c < 256 := by
  obtain h | ⟨-, h⟩ | ⟨h1, h2⟩ := ckd_lt c
  · exact h
  · exact h.elim
  · omega
theorem cw1_le (c : Nat) : cw1 c ≤ 100 := by
  unfold cw1
  split <;> omega
/-- at a sign that is no gap the token begins there -/
theorem lx_at (hn : n ≤ 1000) (hp : p < n) (hs : issp (tp p) = false) : lskip tp n 1001 p = p := by
  unfold lskip
  rw [if_neg (fun x => by rw [hs] at x; exact absurd x.2 (by decide))]
theorem z_tok {cnt : Nat} (X : XC h n tp) (hp : p < n) (hs : issp (tp p) = false) (h4 : f 4 = nI n) (h5 : f 5 = nI p) (h7 : f 7 = nI cnt) (hc : cnt ≤ 1000) :
    ∃ f', f_X7_scanToken 69 (sI (sI h 70 t) 69 f) = some (sI (sI h 70 (up_1 t cnt (nI (enc (lx tp n p))))) 69 f') ∧ f' 4 = nI n ∧ f' 5 = nI (lx tp n p).2.2 ∧ f' 7 = nI (cnt + 1) ∧ ∀ k, k ≠ 0 → k ≠ 1 → k ≠ 2 → k ≠ 5 → k ≠ 7 → f' k = f k := by
  have hn := X.2.2.2.2.1
  have hb := X.2.2.2.2.2.1 p hp
  have el := lx_at hn hp hs
  have elx : lx tp n p = if isw (tp p) = true then (wcode (wbs tp p (lword tp n 1001 p)), p, lword tp n 1001 p) else (scode (tp p) (decide (p + 1 < n) && decide (tp (p + 1) = 61)), p, p + if scode (tp p) (decide (p + 1 < n) && decide (tp (p + 1) = 61)) = 702 then 2 else 1) := by
    unfold lx
    rw [el, if_neg (by omega)]
  -- the end of it
  have fin : ∀ (f1 : Nat → Int32) (c j : Nat), f1 0 = nI (ckd c) → f1 1 + 1 = nI (cw1 c) → f1 2 = nI p → f1 4 = nI n → f1 5 = nI j → f1 7 = nI cnt → (∀ k, k ≠ 0 → k ≠ 1 → k ≠ 2 → k ≠ 5 → k ≠ 7 → f1 k = f k) → lx tp n p = (c, p, j) → ∃ f', b_X7_scanToken_48 69 (sI (sI h 70 t) 69 f1) = some (sI (sI h 70 (up_1 t cnt (nI (enc (lx tp n p))))) 69 f') ∧ f' 4 = nI n ∧ f' 5 = nI (lx tp n p).2.2 ∧ f' 7 = nI (cnt + 1) ∧ ∀ k, k ≠ 0 → k ≠ 1 → k ≠ 2 → k ≠ 5 → k ≠ 7 → f' k = f k := fun f1 c j a0 a1 a2 a4 a5 a7 ak ae => by
    unfold b_X7_scanToken_48
    have al : al_n (sI (sI h 70 t) 69 f1) 70 = some (nI 1001) := by
      have := al_row (h := sI (sI h 70 t) 69 f1) (r := 70) X.2.2.1.2.1
      rw [this]
      show some (nI (hp_l h 70)) = _
      rw [X.2.2.1.2.2]
    rw [z_g X, Option.bind_some, a7, z_r6 X, Option.bind_some, al, Option.bind_some, if_neg (nI_ge (by omega) (by omega))]
    unfold b_X7_scanToken_60
    rw [z_r6 X, Option.bind_some, z_g X, Option.bind_some, a7, z_g X, Option.bind_some, a2, z_g X, Option.bind_some, z_g X, Option.bind_some, a0, a1, shl16 (by omega), shl8 (by have := cw1_le c; omega), enc_or (by omega) (cw1_le c) (ckd_256 c), s_iN (h := sI (sI h 70 t) 69 f1) (r := 70) (n := cnt) X.2.2.1.2.1 (by show cnt < hp_l h 70; rw [X.2.2.1.2.2]; omega) (by omega), Option.bind_some, sI_sn (by decide), sI_st]
    rw [z_g X, Option.bind_some, a7, da, z_p X, Option.bind_some]
    refine ⟨up_1 f1 7 (nI (cnt + 1)), ?_, by rw [up_ne (by decide)]; exact a4, by rw [up_ne (by decide), a5, ae], up_same, fun k k0 k1 k2 k5 k7 => by rw [up_ne k7]; exact ak k k0 k1 k2 k5 k7⟩
    rw [ae]
    rfl
  unfold f_X7_scanToken b_X7_scanToken_0
  have v5 : up_1 (up_1 f 2 (nI p)) 1 (-1) 5 = nI p := by rw [up_ne (by decide), up_ne (by decide)]; exact h5
  have v4 : up_1 (up_1 f 2 (nI p)) 1 (-1) 4 = nI n := by rw [up_ne (by decide), up_ne (by decide)]; exact h4
  have v1 : up_1 (up_1 f 2 (nI p)) 1 (-1) 1 = (-1 : Int32) := up_same
  have v2 : up_1 (up_1 f 2 (nI p)) 1 (-1) 2 = nI p := by rw [up_ne (by decide), up_same]
  have v7 : up_1 (up_1 f 2 (nI p)) 1 (-1) 7 = nI cnt := by rw [up_ne (by decide), up_ne (by decide)]; exact h7
  have vk : ∀ k, k ≠ 0 → k ≠ 1 → k ≠ 2 → k ≠ 5 → k ≠ 7 → up_1 (up_1 f 2 (nI p)) 1 (-1) k = f k := fun k _ k1 k2 _ _ => by rw [up_ne k1, up_ne k2]
  rw [z_g X, Option.bind_some, h5, z_p X, Option.bind_some, z_p X, Option.bind_some, z_r3 X, Option.bind_some, z_g X, Option.bind_some, v5, z_t X hp, Option.bind_some, z_ws hb, Option.bind_some]
  generalize up_1 (up_1 f 2 (nI p)) 1 (-1) = G at v1 v2 v4 v5 v7 vk
  by_cases cw : isw (tp p) = true
  · rw [if_pos cw, if_neg n10]
    rw [if_pos cw] at elx
    unfold b_X7_scanToken_28
    obtain ⟨b1, b2, b3, b4⟩ := lword_p (tp := tp) (n := n) 1001 p (by omega) (by omega)
    have sw := l_swd (t := t) X v4 1001 p (by omega) (by omega) fu_ (by decide)
    rw [up1_id v5] at sw
    have sw' : f_X7_scanWord 69 (sI (sI h 70 t) 69 G) = _ := sw
    rw [z_v X, Option.bind_some, sw']
    generalize lword tp n 1001 p = q at b1 b2 b3 b4 elx
    have pq : p < q := by
      apply Classical.byContradiction
      intro hh
      have e : q = p := by omega
      have := b4 (by omega)
      rw [e, cw] at this
      cases this
    obtain ⟨f1, x1, x2, x3, x4⟩ := z_word (t := t) (f := up_1 G 5 (nI q)) X (by rw [up_ne (by decide)]; exact v1) (by rw [up_ne (by decide)]; exact v2) (by rw [up_ne (by decide)]; exact v4) up_same pq b2
    rw [x1, Option.bind_some]
    exact fin f1 _ q x2 x3 (by rw [x4 2 (by decide) (by decide), up_ne (by decide)]; exact v2) (by rw [x4 4 (by decide) (by decide), up_ne (by decide)]; exact v4) (by rw [x4 5 (by decide) (by decide), up_same]) (by rw [x4 7 (by decide) (by decide), up_ne (by decide)]; exact v7) (fun k k0 k1 k2 k5 k7 => by rw [x4 k k0 k1, up_ne k5]; exact vk k k0 k1 k2 k5 k7) elx
  · rw [if_neg cw, if_pos rfl]
    rw [if_neg cw] at elx
    unfold b_X7_scanToken_35
    rw [z_r3 X, Option.bind_some, z_g X, Option.bind_some, v5, z_t X hp, Option.bind_some, z_v X, Option.bind_some]
    obtain ⟨f1, x1, x2, x3, x4, x5⟩ := z_sign (t := t) X hp rfl v1 v4 v5
    rw [x1, Option.bind_some]
    exact fin f1 _ _ x2 x3 (by rw [x5 2 (by decide) (by decide)]; exact v2) (by rw [x5 4 (by decide) (by decide)]; exact v4) x4 (by rw [x5 7 (by decide) (by decide)]; exact v7) (fun k k0 k1 k2 k5 k7 => by rw [x5 k k0 k5]; exact vk k k0 k1 k2 k5 k7) elx
/-- the scanner's view of token j: its fields -/
def SV (tp : Nat → Nat) (n cnt : Nat) (f : Nat → Int32) (j : Nat) : Prop := f 0 = nI (ckd (tk tp n j).1) ∧ f 1 + 1 = nI (cw1 (tk tp n j).1) ∧ f 2 = nI (tk tp n j).2.1 ∧ f 4 = nI n ∧ f 7 = nI cnt ∧ f 8 = nI (min j cnt)
/-- the row of tokens -/
def TKs (tp : Nat → Nat) (n cnt : Nat) (t : Nat → Int32) : Prop := cnt ≤ 1000 ∧ (∀ j, j < cnt → t j = nI (enc (tk tp n j)) ∧ (tk tp n j).2.1 < n) ∧ ∀ j, cnt ≤ j → tk tp n j = (0, n, n)
theorem z_adv {cnt j : Nat} (X : XC h n tp) (T : TKs tp n cnt t) (h4 : f 4 = nI n) (h7 : f 7 = nI cnt) (h8 : f 8 + 1 = nI j ∨ (f 8 = nI cnt ∧ cnt < j)) (hj : j < 2 ^ 30) : ∃ f', f_X7_advance 69 (sI (sI h 70 t) 69 f) = some (sI (sI h 70 t) 69 f') ∧ SV tp n cnt f' j ∧ ∀ k, k ≠ 0 → k ≠ 1 → k ≠ 2 → k ≠ 8 → f' k = f k := by
  have hn := X.2.2.2.2.1
  obtain ⟨t1, t2, t3⟩ := T
  have m8 : mn_i (f 8 + 1) (nI cnt) = nI (min j cnt) := by
    unfold mn_i
    obtain e | ⟨e, lt⟩ := h8
    · rw [e]
      by_cases c : cnt < j
      · rw [if_pos (nI_lt c (by omega)), Nat.min_eq_right (by omega)]
      · rw [if_neg (nI_nlt (by omega) (by omega)), Nat.min_eq_left (by omega)]
    · rw [e, da, if_pos (nI_lt (by omega) (by omega)), Nat.min_eq_right (by omega)]
  have m1 : min j cnt ≤ cnt := Nat.min_le_right _ _
  have g7 : up_1 f 8 (nI (min j cnt)) 7 = nI cnt := by rw [up_ne (by decide)]; exact h7
  have g4 : up_1 f 8 (nI (min j cnt)) 4 = nI n := by rw [up_ne (by decide)]; exact h4
  have g8 : up_1 f 8 (nI (min j cnt)) 8 = nI (min j cnt) := up_same
  unfold f_X7_advance b_X7_advance_0
  rw [z_g X, Option.bind_some, z_g X, Option.bind_some, h7, m8, z_p X, Option.bind_some, z_g X, Option.bind_some, g8, if_neg (nI_pos (by omega))]
  unfold b_X7_advance_24
  rw [z_g X, Option.bind_some, g8, z_g X, Option.bind_some, g7]
  by_cases c : cnt ≤ j
  · have e : min j cnt = cnt := Nat.min_eq_right c
    rw [if_pos (by rw [e]; exact Int32.le_refl _)]
    unfold b_X7_advance_47
    rw [z_p X, Option.bind_some, z_p X, Option.bind_some, z_g X, Option.bind_some, up_ne (by decide), up_ne (by decide), g4, z_p X, Option.bind_some]
    refine ⟨_, rfl, ⟨?_, ?_, ?_, ?_, ?_, ?_⟩, fun k k0 k1 k2 k8 => ?_⟩
    · rw [up_ne (by decide), up_ne (by decide), up_same, t3 j c]; rfl
    · rw [up_ne (by decide), up_same, t3 j c]; exact (by decide : (-1 : Int32) + 1 = nI 0)
    · rw [up_same, t3 j c]
    · rw [up_ne (by decide), up_ne (by decide), up_ne (by decide)]; exact g4
    · rw [up_ne (by decide), up_ne (by decide), up_ne (by decide)]; exact g7
    · rw [up_ne (by decide), up_ne (by decide), up_ne (by decide)]; exact g8
    · rw [up_ne k2, up_ne k1, up_ne k0, up_ne k8]
  · have e : min j cnt = j := Nat.min_eq_left (by omega)
    rw [if_neg (by rw [e]; exact nI_ge (by omega) (by omega))]
    unfold b_X7_advance_35
    have al : ∀ G, al_n (sI (sI h 70 t) 69 G) 70 = some (nI 1001) := fun G => by
      have := al_row (h := sI (sI h 70 t) 69 G) (r := 70) X.2.2.1.2.1
      rw [this]
      show some (nI (hp_l h 70)) = _
      rw [X.2.2.1.2.2]
    rw [z_g X, Option.bind_some, g8, z_r6 X, Option.bind_some, al, Option.bind_some, if_pos (nI_lt (by omega) (by omega))]
    unfold b_X7_advance_66
    have tv : ∀ G, l_i (sI (sI h 70 t) 69 G) 70 (nI (min j cnt)) = some (nI (enc (tk tp n j))) := fun G => by
      rw [e, l_iN (h := sI (sI h 70 t) 69 G) (r := 70) (n := j) X.2.2.1.2.1 (by show j < hp_l h 70; rw [X.2.2.1.2.2]; omega) (by omega), sI_n (by decide), sI_s, (t2 j (by omega)).1]
    have p1 := (t2 j (by omega)).2
    have w1 := cw1_le (tk tp n j).1
    have k1 := ckd_256 (tk tp n j).1
    have ev : enc (tk tp n j) = (tk tp n j).2.1 * 65536 + cw1 (tk tp n j).1 * 256 + ckd (tk tp n j).1 := rfl
    have a1 : nI (enc (tk tp n j)) &&& (255 : Int32) = nI (ckd (tk tp n j).1) := by
      rw [pk_andN (m := 255) (by omega) 8 (by decide)]
      congr 1
      omega
    have a2 : (nI (enc (tk tp n j)) >>> ((8 : Int32) &&& 31)) &&& (255 : Int32) = nI (cw1 (tk tp n j).1) := by
      rw [pk_shrN (by omega) _ 8 (by decide), pk_andN (m := 255) (by omega) 8 (by decide)]
      congr 1
      omega
    have a3 : nI (enc (tk tp n j)) >>> ((16 : Int32) &&& 31) = nI (tk tp n j).2.1 := by
      rw [pk_shrN (by omega) _ 16 (by decide)]
      congr 1
      omega
    rw [z_r6 X, Option.bind_some, z_g X, Option.bind_some, g8, tv, Option.bind_some, a1, z_p X, Option.bind_some, z_r6 X, Option.bind_some, z_g X, Option.bind_some, up_ne (by decide), g8, tv, Option.bind_some, a2, z_p X, Option.bind_some, z_r6 X, Option.bind_some, z_g X, Option.bind_some, up_ne (by decide), up_ne (by decide), g8, tv, Option.bind_some, a3, z_p X, Option.bind_some]
    refine ⟨_, rfl, ⟨?_, ?_, ?_, ?_, ?_, ?_⟩, fun k k0 k1 k2 k8 => ?_⟩
    · rw [up_ne (by decide), up_ne (by decide), up_same]
    · rw [up_ne (by decide), up_same]
      exact Int32.sub_add_cancel _ _
    · rw [up_same]
    · rw [up_ne (by decide), up_ne (by decide), up_ne (by decide)]; exact g4
    · rw [up_ne (by decide), up_ne (by decide), up_ne (by decide)]; exact g7
    · rw [up_ne (by decide), up_ne (by decide), up_ne (by decide)]; exact g8
    · rw [up_ne k2, up_ne k1, up_ne k0, up_ne k8]
end
