/-! ===== the start: both sides ===== -/
def g0_ : SG := (fun _ => none, fun _ => 0, 0, 0, -1, fun _ => 0, 0, fun _ => -1, fun _ => 0, 0)
theorem dk {t : List Op} {r : Nat} : hp_k (den t) r = lkk t r := (den_all t).2.2.1 r
theorem dl {t : List Op} {r : Nat} : hp_l (den t) r = lkl t r := (den_all t).2.2.2.1 r
theorem di {t : List Op} {r k : Nat} : hp_i (den t) r k = lki t r k := (den_all t).2.2.2.2.1 r k
theorem dj {t : List Op} {r k : Nat} : hp_j (den t) r k = lkj t r k := (den_all t).2.2.2.2.2.1 r k
theorem dr {t : List Op} {r k : Nat} : hp_r (den t) r k = lkr t r k := (den_all t).2.2.2.2.2.2 r k
theorem gh_0 : GH (den T_220) := by
  unfold GH CH ok_o
  simp only [lkn_e, dk, dl, dr]
  refine ⟨⟨?_, ?_, ?_, ?_, ?_, ?_, ?_, ?_⟩, ⟨?_, ?_, ?_, ?_, ?_, ?_⟩, ?_, ?_, ?_, ?_, ?_, ?_, ?_⟩ <;> decide +kernel
theorem hb_0 : HB (den T_220) 0 := by
  unfold HB
  have r0 : hp_r (den T_220) 90 0 = 91 := dr.trans (by decide +kernel)
  have r1 : hp_r (den T_220) 90 1 = 92 := dr.trans (by decide +kernel)
  have r2 : hp_r (den T_220) 90 2 = 93 := dr.trans (by decide +kernel)
  have r3 : hp_r (den T_220) 90 3 = 94 := dr.trans (by decide +kernel)
  have q0 : hp_r (den T_220) 95 0 = 96 := dr.trans (by decide +kernel)
  have l4 : hp_l (den T_220) 94 = 256 := dl.trans (by decide +kernel)
  have l6 : hp_l (den T_220) 96 = 64 := dl.trans (by decide +kernel)
  refine ⟨⟨ok_b (by decide +kernel), dr.trans (by decide +kernel), dr.trans (by decide +kernel), dr.trans (by decide +kernel), dr.trans (by decide +kernel), dr.trans (by decide +kernel)⟩, ⟨ok_b (by decide +kernel), ⟨dr.trans (by decide +kernel), ok_b (by decide +kernel), dl.trans (by decide +kernel)⟩, ⟨dr.trans (by decide +kernel), ok_b (by decide +kernel), dl.trans (by decide +kernel)⟩, dr.trans (by decide +kernel), ok_b (by decide +kernel), dl.trans (by decide +kernel)⟩, ⟨256, ?_⟩, ⟨[], ?_⟩, ⟨ok_b (by decide +kernel), dl.trans (by decide +kernel)⟩, ⟨ok_b (by decide +kernel), dl.trans (by decide +kernel)⟩, by rw [r3, q0]; decide, by rw [r3]; decide, by rw [q0]; decide, di.trans (by decide +kernel), by decide, ?_⟩
  · unfold SI0
    rw [r0, r1, r2, r3]
    exact ⟨ok_b (by decide +kernel), ⟨ok_b (by decide +kernel), dl.trans (by decide +kernel)⟩, ⟨ok_b (by decide +kernel), dl.trans (by decide +kernel)⟩, ⟨ok_b (by decide +kernel), dl.trans (by decide +kernel)⟩, ⟨ok_b (by decide +kernel), l4⟩, by decide, by decide, by decide, 8, by decide, by decide, by decide⟩
  · unfold OI
    rw [q0, l6]
    exact ⟨ok_b (by decide +kernel), ok_b (by decide +kernel), by decide, by decide, by show 0 ≤ 64; omega, fun i hi => absurd hi (Nat.not_lt_zero _), di.trans (by decide +kernel), trivial⟩
  · unfold TB
    rw [r3, l4]
    intro j hj
    refine ⟨0, Nat.le_refl _, di.trans ?_⟩
    have key : ∀ j, j < 256 → lki T_220 94 j = nI 0 := by decide +kernel
    exact key j hj
theorem gc_0 : GC (den T_220) g0_ 0 := by
  refine ⟨⟨⟨by show 0 ≤ 1000; omega, fun k hk => absurd hk (Nat.not_lt_zero _)⟩, ⟨by show 0 ≤ 1000; omega, fun k hk => absurd hk (Nat.not_lt_zero _)⟩, fun l _ => Or.inl rfl, by show 0 ≤ 8; omega⟩, gh_0, ?_, ⟨fun p hp => Or.inl ⟨rfl, ?_⟩, fun p q hp _ _ _ => ?_⟩, ⟨?_, ?_⟩, 0, Nat.le_refl _, hb_0⟩
  · refine ⟨⟨di.trans (by decide +kernel), fun k hk => absurd hk (Nat.not_lt_zero _)⟩, ⟨di.trans (by decide +kernel), di.trans (by decide +kernel)⟩, ⟨di.trans (by decide +kernel), fun k hk => absurd hk (Nat.not_lt_zero _)⟩, fun l hl => di.trans ?_, di.trans (by decide +kernel), fun k hk => absurd hk (Nat.not_lt_zero _)⟩
    have key : ∀ l, l < 5 → lki T_220 67 l = -1 := by decide +kernel
    exact key l hl
  · have key : ∀ p, p < 8 → lkr T_220 66 p = 0 := by decide +kernel
    exact dr.trans (key p hp)
  · have key : ∀ p, p < 8 → lkr T_220 66 p = 0 := by decide +kernel
    exact dr.trans (key p hp)
  · rw [lkn_e]
    have : lkn T_220 = 126 := by decide +kernel
    omega
  · rw [(den_all T_220).2.1]
    have : lks T_220 ≤ 100000 := by decide +kernel
    omega
theorem gr_00 : GR (den T_220) g0_ := by
  refine ⟨?_, ?_, fun p hp => Or.inl ⟨rfl, ?_⟩⟩
  · unfold RZ ok_o
    simp only [lkn_e, dk, dl, dr, dj]
    decide +kernel
  · refine ⟨⟨di.trans (by decide +kernel), fun k hk => absurd hk (Nat.not_lt_zero _)⟩, ⟨di.trans (by decide +kernel), di.trans (by decide +kernel)⟩, ⟨di.trans (by decide +kernel), fun k hk => absurd hk (Nat.not_lt_zero _)⟩, fun l hl => di.trans ?_, ⟨di.trans (by decide +kernel), fun k hk => absurd hk (Nat.not_lt_zero _)⟩, di.trans (by decide +kernel), 0, by omega, di.trans (by decide +kernel)⟩
    have key : ∀ l, l < 5 → lki T_220 112 l = -1 := by decide +kernel
    exact key l hl
  · have key : ∀ p, p < 8 → lki T_220 106 (900 * p + 7) = 0 := by decide +kernel
    exact di.trans (key p hp)
