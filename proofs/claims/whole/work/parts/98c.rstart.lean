/-! ===== the reference's start: its row before the threads settle ===== -/
section
variable {h : AH}
theorem e_put0 {k : Nat} {x v : Int32} (R : RH h) (hk : k < 142) (hx : x = nI k) : f_X11_put 102 (0 : Int32) x v h = some (st_i h 109 k v) := by
  have := e_put (d := 0) (k := k) (v := v) R (by omega) hk
  rw [Nat.mul_zero, Nat.zero_add] at this
  rw [hx]
  exact this
theorem l_st2 : ∀ n, n ≤ 142 → ∀ fu, n < fu → ∀ h, RH h → ∃ h', l_X11_start_2 fu 102 (nI (142 - n)) h = b_X11_start_22 102 h' ∧ RO h h' ∧ (∀ k, 142 - n ≤ k → k < 142 → hp_i h' 109 (0 + k) = 0) ∧ (∀ j, j < 0 + (142 - n) ∨ 0 + 142 ≤ j → hp_i h' 109 j = hp_i h 109 j) := by
  intro n
  induction n with
  | zero =>
    intro _ fu hf h R
    obtain ⟨fu, rfl⟩ : ∃ f, fu = f + 1 := ⟨fu - 1, by omega⟩
    refine ⟨h, ?_, ro_rf, fun k h1 h2 => by omega, fun _ _ => rfl⟩
    show b_X11_start_2 (l_X11_start_2 fu) 102 (nI 142) h = _
    unfold b_X11_start_2
    rw [if_pos (by decide)]
  | succ n ih =>
    intro hn fu hf h R
    obtain ⟨fu, rfl⟩ : ∃ f, fu = f + 1 := ⟨fu - 1, by omega⟩
    obtain ⟨h', c1, c2, c3, c4⟩ := ih (by omega) fu (by omega) (st_i h 109 (0 + (142 - (n + 1))) 0) (rh_put R)
    refine ⟨h', ?_, ro_tr ro_put c2, fun k h1 h2 => ?_, fun j hj => ?_⟩
    · show b_X11_start_2 (l_X11_start_2 fu) 102 (nI (142 - (n + 1))) h = _
      unfold b_X11_start_2
      rw [if_neg (fun e => by have := (cmp_N (a := 142) (b := 142 - (n + 1)) (by omega) (by omega)).mp e; omega)]
      unfold b_X11_start_9
      have i2 : nI (142 - (n + 1)) + (1 : Int32) = nI (142 - n) := by
        rw [show (1 : Int32) = nI 1 from rfl, nI_add]
        congr 1
        omega
      have p : f_X11_put 102 (0 : Int32) (nI (142 - (n + 1))) 0 h = some (st_i h 109 (0 + (142 - (n + 1))) 0) := e_put0 (k := 0 + (142 - (n + 1))) R (by omega) (by rw [Nat.zero_add])
      rw [rh_v R, Option.bind_some, p, Option.bind_some, i2]
      exact c1
    · by_cases e : k = 142 - (n + 1)
      · rw [c4 _ (Or.inl (by omega)), e, sti_s]
      · rw [c3 k (by omega) h2]
    · rw [c4 j (by omega), sti_k (by omega)]
theorem l_st24 : ∀ n, n ≤ 5 → ∀ fu, n < fu → ∀ h, RH h → ∃ h', l_X11_start_24 fu 102 (nI (5 - n)) h = b_X11_start_45 102 h' ∧ RO h h' ∧ (∀ k, 5 - n ≤ k → k < 5 → hp_i h' 109 (9 + k) = (-1)) ∧ (∀ j, j < 9 + (5 - n) ∨ 9 + 5 ≤ j → hp_i h' 109 j = hp_i h 109 j) := by
  intro n
  induction n with
  | zero =>
    intro _ fu hf h R
    obtain ⟨fu, rfl⟩ : ∃ f, fu = f + 1 := ⟨fu - 1, by omega⟩
    refine ⟨h, ?_, ro_rf, fun k h1 h2 => by omega, fun _ _ => rfl⟩
    show b_X11_start_24 (l_X11_start_24 fu) 102 (nI 5) h = _
    unfold b_X11_start_24
    rw [if_pos (by decide)]
  | succ n ih =>
    intro hn fu hf h R
    obtain ⟨fu, rfl⟩ : ∃ f, fu = f + 1 := ⟨fu - 1, by omega⟩
    obtain ⟨h', c1, c2, c3, c4⟩ := ih (by omega) fu (by omega) (st_i h 109 (9 + (5 - (n + 1))) (-1)) (rh_put R)
    refine ⟨h', ?_, ro_tr ro_put c2, fun k h1 h2 => ?_, fun j hj => ?_⟩
    · show b_X11_start_24 (l_X11_start_24 fu) 102 (nI (5 - (n + 1))) h = _
      unfold b_X11_start_24
      rw [if_neg (fun e => by have := (cmp_N (a := 5) (b := 5 - (n + 1)) (by omega) (by omega)).mp e; omega)]
      unfold b_X11_start_29
      have i2 : nI (5 - (n + 1)) + (1 : Int32) = nI (5 - n) := by
        rw [show (1 : Int32) = nI 1 from rfl, nI_add]
        congr 1
        omega
      have p : f_X11_put 102 (0 : Int32) ((9 : Int32) + nI (5 - (n + 1))) (-1) h = some (st_i h 109 (9 + (5 - (n + 1))) (-1)) := e_put0 (k := 9 + (5 - (n + 1))) R (by omega) (nI_add 9 (5 - (n + 1)))
      rw [rh_v R, Option.bind_some, p, Option.bind_some, i2]
      exact c1
    · by_cases e : k = 5 - (n + 1)
      · rw [c4 _ (Or.inl (by omega)), e, sti_s]
      · rw [c3 k (by omega) h2]
    · rw [c4 j (by omega), sti_k (by omega)]
theorem l_st47 : ∀ n, n ≤ 6 → ∀ fu, n < fu → ∀ h, RH h → ∃ h', l_X11_start_47 fu 102 (nI (6 - n)) h = b_X11_start_69 102 h' ∧ RO h h' ∧ (∀ k, 6 - n ≤ k → k < 6 → hp_i h' 109 (20 + k) = (-1)) ∧ (∀ j, j < 20 + (6 - n) ∨ 20 + 6 ≤ j → hp_i h' 109 j = hp_i h 109 j) := by
  intro n
  induction n with
  | zero =>
    intro _ fu hf h R
    obtain ⟨fu, rfl⟩ : ∃ f, fu = f + 1 := ⟨fu - 1, by omega⟩
    refine ⟨h, ?_, ro_rf, fun k h1 h2 => by omega, fun _ _ => rfl⟩
    show b_X11_start_47 (l_X11_start_47 fu) 102 (nI 6) h = _
    unfold b_X11_start_47
    rw [if_pos (by decide)]
  | succ n ih =>
    intro hn fu hf h R
    obtain ⟨fu, rfl⟩ : ∃ f, fu = f + 1 := ⟨fu - 1, by omega⟩
    obtain ⟨h', c1, c2, c3, c4⟩ := ih (by omega) fu (by omega) (st_i h 109 (20 + (6 - (n + 1))) (-1)) (rh_put R)
    refine ⟨h', ?_, ro_tr ro_put c2, fun k h1 h2 => ?_, fun j hj => ?_⟩
    · show b_X11_start_47 (l_X11_start_47 fu) 102 (nI (6 - (n + 1))) h = _
      unfold b_X11_start_47
      rw [if_neg (fun e => by have := (cmp_N (a := 6) (b := 6 - (n + 1)) (by omega) (by omega)).mp e; omega)]
      unfold b_X11_start_53
      have i2 : nI (6 - (n + 1)) + (1 : Int32) = nI (6 - n) := by
        rw [show (1 : Int32) = nI 1 from rfl, nI_add]
        congr 1
        omega
      have p : f_X11_put 102 (0 : Int32) ((20 : Int32) + nI (6 - (n + 1))) (-1) h = some (st_i h 109 (20 + (6 - (n + 1))) (-1)) := e_put0 (k := 20 + (6 - (n + 1))) R (by omega) (nI_add 20 (6 - (n + 1)))
      rw [rh_v R, Option.bind_some, p, Option.bind_some, i2]
      exact c1
    · by_cases e : k = 6 - (n + 1)
      · rw [c4 _ (Or.inl (by omega)), e, sti_s]
      · rw [c3 k (by omega) h2]
    · rw [c4 j (by omega), sti_k (by omega)]
theorem l_st87 : ∀ n, n ≤ 4 → ∀ fu, n < fu → ∀ h, RH h → ∃ h', l_X11_start_87 fu 102 (nI (4 - n)) h = b_X11_start_109 102 h' ∧ RO h h' ∧ (∀ k, 4 - n ≤ k → k < 4 → hp_i h' 109 (130 + k) = (-1)) ∧ (∀ j, j < 130 + (4 - n) ∨ 130 + 4 ≤ j → hp_i h' 109 j = hp_i h 109 j) := by
  intro n
  induction n with
  | zero =>
    intro _ fu hf h R
    obtain ⟨fu, rfl⟩ : ∃ f, fu = f + 1 := ⟨fu - 1, by omega⟩
    refine ⟨h, ?_, ro_rf, fun k h1 h2 => by omega, fun _ _ => rfl⟩
    show b_X11_start_87 (l_X11_start_87 fu) 102 (nI 4) h = _
    unfold b_X11_start_87
    rw [if_pos (by decide)]
  | succ n ih =>
    intro hn fu hf h R
    obtain ⟨fu, rfl⟩ : ∃ f, fu = f + 1 := ⟨fu - 1, by omega⟩
    obtain ⟨h', c1, c2, c3, c4⟩ := ih (by omega) fu (by omega) (st_i h 109 (130 + (4 - (n + 1))) (-1)) (rh_put R)
    refine ⟨h', ?_, ro_tr ro_put c2, fun k h1 h2 => ?_, fun j hj => ?_⟩
    · show b_X11_start_87 (l_X11_start_87 fu) 102 (nI (4 - (n + 1))) h = _
      unfold b_X11_start_87
      rw [if_neg (fun e => by have := (cmp_N (a := 4) (b := 4 - (n + 1)) (by omega) (by omega)).mp e; omega)]
      unfold b_X11_start_92
      have i2 : nI (4 - (n + 1)) + (1 : Int32) = nI (4 - n) := by
        rw [show (1 : Int32) = nI 1 from rfl, nI_add]
        congr 1
        omega
      have p : f_X11_put 102 (0 : Int32) ((130 : Int32) + nI (4 - (n + 1))) (-1) h = some (st_i h 109 (130 + (4 - (n + 1))) (-1)) := e_put0 (k := 130 + (4 - (n + 1))) R (by omega) (nI_add 130 (4 - (n + 1)))
      rw [rh_v R, Option.bind_some, p, Option.bind_some, i2]
      exact c1
    · by_cases e : k = 4 - (n + 1)
      · rw [c4 _ (Or.inl (by omega)), e, sti_s]
      · rw [c3 k (by omega) h2]
    · rw [c4 j (by omega), sti_k (by omega)]
/-- the row before the threads settle -/
def st0 (k : Nat) : Int32 := if (9 ≤ k ∧ k < 14) ∨ (20 ≤ k ∧ k < 28) ∨ (130 ≤ k ∧ k < 134) then -1 else 0
theorem e_st0 (R : RH h) : ∃ h', f_X11_start 102 h = b_X11_start_109 102 h' ∧ RO h h' ∧ (∀ k, k < 142 → hp_i h' 109 k = st0 k) ∧ (∀ j, 142 ≤ j → hp_i h' 109 j = hp_i h 109 j) := by
  obtain ⟨g1, a1, a2, a3, a4⟩ := l_st2 142 (Nat.le_refl _) fu_ (by decide) h R
  have R1 := ro_rh a2 R
  obtain ⟨g2, b1, b2, b3, b4⟩ := l_st24 5 (Nat.le_refl _) fu_ (by decide) g1 R1
  have R2 := ro_rh b2 R1
  obtain ⟨g3, c1, c2, c3, c4⟩ := l_st47 6 (Nat.le_refl _) fu_ (by decide) g2 R2
  have R3 := ro_rh c2 R2
  have R4 : RH (st_i g3 109 26 (-1)) := rh_put R3
  have R5 : RH (st_i (st_i g3 109 26 (-1)) 109 27 (-1)) := rh_put R4
  obtain ⟨g4, d1, d2, d3, d4⟩ := l_st87 4 (Nat.le_refl _) fu_ (by decide) _ R5
  refine ⟨g4, ?_, ro_tr a2 (ro_tr b2 (ro_tr c2 (ro_tr ro_put (ro_tr ro_put d2)))), fun k hk => ?_, fun j hj => ?_⟩
  · have q1 : f_X11_start 102 h = b_X11_start_22 102 g1 := a1
    have q2 : b_X11_start_22 102 g1 = b_X11_start_45 102 g2 := b1
    have q3 : b_X11_start_45 102 g2 = b_X11_start_69 102 g3 := c1
    rw [q1, q2, q3]
    unfold b_X11_start_69
    rw [rh_v R3, Option.bind_some, e_put0 (k := 26) (x := 26) R3 (by omega) rfl, Option.bind_some, rh_v R4, Option.bind_some, e_put0 (k := 27) (x := 27) R4 (by omega) rfl, Option.bind_some]
    exact d1
  · unfold st0
    by_cases k1 : 130 ≤ k ∧ k < 134
    · rw [if_pos (Or.inr (Or.inr k1))]
      have := d3 (k - 130) (by omega) (by omega)
      rw [show 130 + (k - 130) = k by omega] at this
      exact this
    · rw [d4 k (by omega)]
      by_cases k2 : k = 27
      · rw [k2, sti_s, if_pos (by decide)]
      · rw [sti_k k2]
        by_cases k3 : k = 26
        · rw [k3, sti_s, if_pos (by decide)]
        · rw [sti_k k3]
          by_cases k4 : 20 ≤ k ∧ k < 26
          · rw [if_pos (Or.inr (Or.inl ⟨k4.1, by omega⟩))]
            have := c3 (k - 20) (by omega) (by omega)
            rw [show 20 + (k - 20) = k by omega] at this
            exact this
          · rw [c4 k (by omega)]
            by_cases k5 : 9 ≤ k ∧ k < 14
            · rw [if_pos (Or.inl k5)]
              have := b3 (k - 9) (by omega) (by omega)
              rw [show 9 + (k - 9) = k by omega] at this
              exact this
            · rw [b4 k (by omega), if_neg (by omega)]
              have := a3 k (by omega) hk
              rw [Nat.zero_add] at this
              exact this
  · rw [d4 j (by omega), sti_k (by omega), sti_k (by omega), c4 j (by omega), b4 j (by omega), a4 j (by omega)]
end
