set_option maxRecDepth 100000 in
theorem fcX0 : Fc 0 RX0 TX0 18 tyX0 := ⟨rfl, by decide +kernel, tyX0_ok, nmX0, rfl, rfl, by decide⟩
theorem nfX0 : ∀ j, tyX0 j ≠ .float := by
  intro j hj
  unfold tyX0 at hj
  split at hj <;> cases hj
theorem ndX0 : ∀ j, tyX0 j ≠ .double := by
  intro j hj
  unfold tyX0 at hj
  split at hj <;> cases hj
set_option maxRecDepth 100000 in
theorem fcX1 : Fc 1 RX1 TX1 2 tyX1 := ⟨rfl, by decide +kernel, tyX1_ok, nmX1, rfl, rfl, by decide⟩
theorem nfX1 : ∀ j, tyX1 j ≠ .float := by
  intro j hj
  unfold tyX1 at hj
  split at hj <;> cases hj
theorem ndX1 : ∀ j, tyX1 j ≠ .double := by
  intro j hj
  unfold tyX1 at hj
  split at hj <;> cases hj
set_option maxRecDepth 100000 in
theorem fcX2 : Fc 2 RX2 TX2 9 tyX2 := ⟨rfl, by decide +kernel, tyX2_ok, nmX2, rfl, rfl, by decide⟩
theorem nfX2 : ∀ j, tyX2 j ≠ .float := by
  intro j hj
  unfold tyX2 at hj
  split at hj <;> cases hj
theorem ndX2 : ∀ j, tyX2 j ≠ .double := by
  intro j hj
  unfold tyX2 at hj
  split at hj <;> cases hj
set_option maxRecDepth 100000 in
theorem fcX3 : Fc 3 RX3 TX3 2 tyX3 := ⟨rfl, by decide +kernel, tyX3_ok, nmX3, rfl, rfl, by decide⟩
theorem nfX3 : ∀ j, tyX3 j ≠ .float := by
  intro j hj
  unfold tyX3 at hj
  split at hj <;> cases hj
theorem ndX3 : ∀ j, tyX3 j ≠ .double := by
  intro j hj
  unfold tyX3 at hj
  split at hj <;> cases hj
set_option maxRecDepth 100000 in
theorem fcX4 : Fc 4 RX4 TX4 3 tyX4 := ⟨rfl, by decide +kernel, tyX4_ok, nmX4, rfl, rfl, by decide⟩
theorem nfX4 : ∀ j, tyX4 j ≠ .float := by
  intro j hj
  unfold tyX4 at hj
  split at hj <;> cases hj
theorem ndX4 : ∀ j, tyX4 j ≠ .double := by
  intro j hj
  unfold tyX4 at hj
  split at hj <;> cases hj
set_option maxRecDepth 100000 in
theorem fcX5 : Fc 5 RX5 TX5 10 tyX5 := ⟨rfl, by decide +kernel, tyX5_ok, nmX5, rfl, rfl, by decide⟩
theorem nfX5 : ∀ j, tyX5 j ≠ .float := by
  intro j hj
  unfold tyX5 at hj
  split at hj <;> cases hj
theorem ndX5 : ∀ j, tyX5 j ≠ .double := by
  intro j hj
  unfold tyX5 at hj
  split at hj <;> cases hj
set_option maxRecDepth 100000 in
theorem fcX6 : Fc 6 RX6 TX6 11 tyX6 := ⟨rfl, by decide +kernel, tyX6_ok, nmX6, rfl, rfl, by decide⟩
theorem nfX6 : ∀ j, tyX6 j ≠ .float := by
  intro j hj
  unfold tyX6 at hj
  split at hj <;> cases hj
theorem ndX6 : ∀ j, tyX6 j ≠ .double := by
  intro j hj
  unfold tyX6 at hj
  split at hj <;> cases hj
set_option maxRecDepth 100000 in
theorem fcX7 : Fc 7 RX7 TX7 9 tyX7 := ⟨rfl, by decide +kernel, tyX7_ok, nmX7, rfl, rfl, by decide⟩
theorem nfX7 : ∀ j, tyX7 j ≠ .float := by
  intro j hj
  unfold tyX7 at hj
  split at hj <;> cases hj
theorem ndX7 : ∀ j, tyX7 j ≠ .double := by
  intro j hj
  unfold tyX7 at hj
  split at hj <;> cases hj
set_option maxRecDepth 100000 in
theorem fcX8 : Fc 8 RX8 TX8 13 tyX8 := ⟨rfl, by decide +kernel, tyX8_ok, nmX8, rfl, rfl, by decide⟩
theorem nfX8 : ∀ j, tyX8 j ≠ .float := by
  intro j hj
  unfold tyX8 at hj
  split at hj <;> cases hj
theorem ndX8 : ∀ j, tyX8 j ≠ .double := by
  intro j hj
  unfold tyX8 at hj
  split at hj <;> cases hj
set_option maxRecDepth 100000 in
theorem fcX9 : Fc 9 RX9 TX9 6 tyX9 := ⟨rfl, by decide +kernel, tyX9_ok, nmX9, rfl, rfl, by decide⟩
theorem nfX9 : ∀ j, tyX9 j ≠ .float := by
  intro j hj
  unfold tyX9 at hj
  split at hj <;> cases hj
theorem ndX9 : ∀ j, tyX9 j ≠ .double := by
  intro j hj
  unfold tyX9 at hj
  split at hj <;> cases hj
set_option maxRecDepth 100000 in
theorem fcX10 : Fc 10 RX10 TX10 10 tyX10 := ⟨rfl, by decide +kernel, tyX10_ok, nmX10, rfl, rfl, by decide⟩
theorem nfX10 : ∀ j, tyX10 j ≠ .float := by
  intro j hj
  unfold tyX10 at hj
  split at hj <;> cases hj
theorem ndX10 : ∀ j, tyX10 j ≠ .double := by
  intro j hj
  unfold tyX10 at hj
  split at hj <;> cases hj
set_option maxRecDepth 100000 in
theorem fcX11 : Fc 11 RX11 TX11 47 tyX11 := ⟨rfl, by decide +kernel, tyX11_ok, nmX11, rfl, rfl, by decide⟩
theorem nfX11 : ∀ j, tyX11 j ≠ .float := by
  intro j hj
  unfold tyX11 at hj
  split at hj <;> cases hj
theorem ndX11 : ∀ j, tyX11 j ≠ .double := by
  intro j hj
  unfold tyX11 at hj
  split at hj <;> cases hj
theorem tn_i {x k : Int32} {n : Int} (hk : k.toInt = n) (h : ¬ x = k) : ¬ x.toInt = n := fun q => h (Int32.toInt_inj.mp (q.trans hk.symm))
theorem tn_j {x : Int32} {n : Int} (h : ¬ x.toInt = n) : ¬ n = x.toInt := fun q => h q.symm
def default_g : GT := (launch0, #[], (fun _ => 0, fun _ _ => 0), (0, 0, 0), fun _ => 0, fun _ => 0)
