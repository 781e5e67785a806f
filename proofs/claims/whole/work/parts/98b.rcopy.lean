/-! ===== the reference's states: what a call leaves alone; copy ===== -/
/-- only the states' row has changed -/
def RO (h h' : AH) : Prop := hp_n h' = hp_n h ∧ hp_s h' = hp_s h ∧ hp_k h' = hp_k h ∧ hp_l h' = hp_l h ∧ (∀ r, r ≠ 109 → hp_i h' r = hp_i h r) ∧ hp_j h' = hp_j h ∧ hp_r h' = hp_r h
section
variable {h h1 h2 : AH}
theorem ro_rf : RO h h := ⟨rfl, rfl, rfl, rfl, fun _ _ => rfl, rfl, rfl⟩
theorem ro_tr (a : RO h h1) (b : RO h1 h2) : RO h h2 := by
  obtain ⟨a1, a2, a3, a4, a5, a6, a7⟩ := a
  obtain ⟨b1, b2, b3, b4, b5, b6, b7⟩ := b
  exact ⟨b1.trans a1, b2.trans a2, b3.trans a3, b4.trans a4, fun r hr => (b5 r hr).trans (a5 r hr), b6.trans a6, b7.trans a7⟩
theorem ro_put {k : Nat} {v : Int32} : RO h (st_i h 109 k v) := ⟨sti_n, sti_sz, sti_kk, sti_l, fun _ hr => sti_r hr, sti_j, sti_rr⟩
theorem ro_rh (a : RO h h1) (R : RH h) : RH h1 := by
  obtain ⟨a1, a2, a3, a4, a5, a6, a7⟩ := a
  obtain ⟨r1, ⟨r2, r3, r4⟩, r5, r6, r7⟩ := R
  have ok : ∀ r c, ok_o h r c → ok_o h1 r c := fun r c o => ⟨o.1, by rw [a1]; exact o.2.1, by rw [a3]; exact o.2.2⟩
  unfold RH
  rw [a7, a4]
  exact ⟨ok _ _ r1, ⟨r2, ok _ _ r3, r4⟩, r5, ok _ _ r6, r7⟩
theorem cmp_N {a b : Nat} (ha : a < 2 ^ 31) (hb : b < 2 ^ 31) : nI a ≤ nI b ↔ a ≤ b := by
  rw [Int32.le_iff_toInt_le]
  have e1 : (nI a).toInt = a := Int32.toInt_ofNat_of_lt (by omega)
  have e2 : (nI b).toInt = b := Int32.toInt_ofNat_of_lt (by omega)
  rw [e1, e2]
  omega
theorem l_copy {d : Nat} (hd : d + 1 < 20) : ∀ n, n ≤ 142 → ∀ fu, n < fu → ∀ h, RH h → ∃ h', l_X11_copy_2 fu 102 (nI d) (nI (142 - n)) h = some h' ∧ RO h h' ∧ (∀ k, 142 - n ≤ k → k < 142 → hp_i h' 109 (142 * (d + 1) + k) = hp_i h 109 (142 * d + k)) ∧ (∀ j, j < 142 * (d + 1) + (142 - n) ∨ 142 * (d + 1) + 142 ≤ j → hp_i h' 109 j = hp_i h 109 j) := by
  intro n
  induction n with
  | zero =>
    intro _ fu hf h R
    obtain ⟨fu, rfl⟩ : ∃ f, fu = f + 1 := ⟨fu - 1, by omega⟩
    refine ⟨h, ?_, ro_rf, fun k h1 h2 => by omega, fun _ _ => rfl⟩
    show b_X11_copy_2 (l_X11_copy_2 fu) 102 (nI d) (nI 142) h = _
    unfold b_X11_copy_2
    rw [if_pos (by decide)]
    rfl
  | succ n ih =>
    intro hn fu hf h R
    obtain ⟨fu, rfl⟩ : ∃ f, fu = f + 1 := ⟨fu - 1, by omega⟩
    obtain ⟨h', c1, c2, c3, c4⟩ := ih (by omega) fu (by omega) (st_i h 109 (142 * (d + 1) + (142 - (n + 1))) (hp_i h 109 (142 * d + (142 - (n + 1))))) (rh_put R)
    refine ⟨h', ?_, ro_tr ro_put c2, fun k h1 h2 => ?_, fun j hj => ?_⟩
    · show b_X11_copy_2 (l_X11_copy_2 fu) 102 (nI d) (nI (142 - (n + 1))) h = _
      unfold b_X11_copy_2
      rw [if_neg (fun e => by have := (cmp_N (a := 142) (b := 142 - (n + 1)) (by omega) (by omega)).mp e; omega)]
      unfold b_X11_copy_9
      have i1 : (142 : Int32) * nI d + (142 : Int32) + nI (142 - (n + 1)) = nI (142 * (d + 1) + (142 - (n + 1))) := by
        rw [show (142 : Int32) = nI 142 from rfl, pk_mul, nI_add, nI_add]
        congr 1
      have i2 : nI (142 - (n + 1)) + (1 : Int32) = nI (142 - n) := by
        rw [show (1 : Int32) = nI 1 from rfl, nI_add]
        congr 1
        omega
      have g : g_r h 102 11 25 = some 109 := by
        rw [← R.2.1.1]; exact if_pos R.1
      rw [g, Option.bind_some, Option.bind_some, i142, l_iN R.2.1.2.1 (by rw [R.2.1.2.2]; omega) (by omega), Option.bind_some, i1, s_iN R.2.1.2.1 (by rw [R.2.1.2.2]; omega) (by omega), Option.bind_some, i2]
      exact c1
    · by_cases e : k = 142 - (n + 1)
      · rw [c4 _ (Or.inl (by omega)), e, sti_s]
      · rw [c3 k (by omega) h2, sti_k (by omega)]
    · rw [c4 j (by omega), sti_k (by omega)]
theorem e_copy {d : Nat} (hd : d + 1 < 20) (R : RH h) : ∃ h', f_X11_copy 102 (nI d) h = some h' ∧ RO h h' ∧ (∀ k, k < 142 → hp_i h' 109 (142 * (d + 1) + k) = hp_i h 109 (142 * d + k)) ∧ (∀ j, j < 142 * (d + 1) ∨ 142 * (d + 1) + 142 ≤ j → hp_i h' 109 j = hp_i h 109 j) := by
  obtain ⟨h', c1, c2, c3, c4⟩ := l_copy hd 142 (Nat.le_refl _) fu_ (by decide) h R
  exact ⟨h', c1, c2, fun k hk => c3 k (by omega) hk, fun j hj => c4 j (by omega)⟩
end
