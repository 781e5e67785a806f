/-! ===== the reference's rows: reading and setting ===== -/
/-- the reference stands: its programs (8 of 900), its states (20 of 142) -/
def RH (h : AH) : Prop := ok_o h 102 11 ∧ (hp_r h 102 25 = 109 ∧ ok_o h 109 100 ∧ hp_l h 109 = 2840) ∧ (hp_r h 102 9 = 106 ∧ ok_o h 106 100 ∧ hp_l h 106 = 7200)
section
variable {h : AH}
theorem rh_v (R : RH h) : ok_v h 102 11 = some () := if_pos R.1
theorem rh_put {k : Nat} {v : Int32} (R : RH h) : RH (st_i h 109 k v) := by
  obtain ⟨a, ⟨b1, b2, b3⟩, c1, c2, c3⟩ := R
  unfold RH
  rw [sti_rr, sti_l]
  exact ⟨a, ⟨b1, b2, b3⟩, c1, c2, c3⟩
theorem l_iN {r n : Nat} (ok : ok_o h r 100) (hn : n < hp_l h r) (hb : n < 2 ^ 31) : l_i h r (nI n) = some (hp_i h r n) := by
  have e : (nI n).toNatClampNeg = n := ix_nI hb
  have c : ok_a h r 100 (nI n) := ⟨ok, nI_pos (by omega), by rw [e]; exact hn⟩
  unfold l_i
  rw [if_pos c, e]
theorem s_iN {r n : Nat} {v : Int32} (ok : ok_o h r 100) (hn : n < hp_l h r) (hb : n < 2 ^ 31) : s_i h r (nI n) v = some (st_i h r n v) := by
  have e : (nI n).toNatClampNeg = n := ix_nI hb
  have c : ok_a h r 100 (nI n) := ⟨ok, nI_pos (by omega), by rw [e]; exact hn⟩
  unfold s_i
  rw [if_pos c, e]
theorem i142 {d k : Nat} : (142 : Int32) * nI d + nI k = nI (142 * d + k) := by
  rw [show (142 : Int32) = nI 142 from rfl, pk_mul, nI_add]
theorem e_st {d k : Nat} (R : RH h) (hd : d < 20) (hk : k < 142) : f_X11_st 102 (nI d) (nI k) h = some (hp_i h 109 (142 * d + k), h) := by
  unfold f_X11_st b_X11_st_0
  rw [show g_r h 102 11 25 = some (hp_r h 102 25) from if_pos R.1, Option.bind_some, R.2.1.1, i142, l_iN R.2.1.2.1 (by rw [R.2.1.2.2]; omega) (by omega), Option.bind_some]
theorem e_put {d k : Nat} {v : Int32} (R : RH h) (hd : d < 20) (hk : k < 142) : f_X11_put 102 (nI d) (nI k) v h = some (st_i h 109 (142 * d + k) v) := by
  unfold f_X11_put b_X11_put_0
  rw [show g_r h 102 11 25 = some (hp_r h 102 25) from if_pos R.1, Option.bind_some, R.2.1.1, i142, s_iN R.2.1.2.1 (by rw [R.2.1.2.2]; omega) (by omega), Option.bind_some]
theorem e_of {s k : Nat} (R : RH h) (hs : hp_i h 102 24 = nI s) (h8 : s < 8) (hk : k < 900) : f_X11_of 102 (nI k) h = some (hp_i h 106 (900 * s + k), h) := by
  unfold f_X11_of b_X11_of_0
  have i900 : (900 : Int32) * nI s + nI k = nI (900 * s + k) := by
    rw [show (900 : Int32) = nI 900 from rfl, pk_mul, nI_add]
  rw [show g_r h 102 11 9 = some (hp_r h 102 9) from if_pos R.1, Option.bind_some, show g_i h 102 11 24 = some (hp_i h 102 24) from if_pos R.1, Option.bind_some, R.2.2.1, hs, i900, l_iN R.2.2.2.1 (by rw [R.2.2.2.2]; omega) (by omega), Option.bind_some]
theorem e_ins {s e k : Nat} (R : RH h) (hs : hp_i h 102 24 = nI s) (h8 : s < 8) (hk : 60 + 5 * e + k < 900) : f_X11_instr 102 (nI e) (nI k) h = some (hp_i h 106 (900 * s + (60 + 5 * e + k)), h) := by
  unfold f_X11_instr b_X11_instr_0
  have e5 : ((60 : Int32) + (5 : Int32) * nI e) + nI k = nI (60 + 5 * e + k) := by
    rw [show (60 : Int32) = nI 60 from rfl, show (5 : Int32) = nI 5 from rfl, pk_mul, nI_add, nI_add]
  rw [rh_v R, Option.bind_some, e5, e_of R hs h8 hk, Option.bind_some]
theorem e_isd {d n : Nat} (R : RH h) (hd : d < 20) : f_X11_isDone 102 (nI d) (nI n) h = some (if (hp_i h 109 (142 * d + 129) >>> (nI n &&& 31)) &&& (1 : Int32) = 1 then 1 else 0, h) := by
  unfold f_X11_isDone b_X11_isDone_0
  rw [rh_v R, Option.bind_some, show (129 : Int32) = nI 129 from rfl, e_st R hd (by omega), Option.bind_some]
  split
  · exact ok_z_1
  · exact ok_z_0
theorem e_with {d n : Nat} (R : RH h) (hd : d < 20) (hn : n < 24) : f_X11_with 102 (nI d) (nI n) h = some (hp_i h 109 (142 * d + (105 + n)) ||| ((1 : Int32) <<< (nI n &&& 31)), h) := by
  unfold f_X11_with b_X11_with_0
  rw [rh_v R, Option.bind_some, show (105 : Int32) = nI 105 from rfl, nI_add, e_st R hd (by omega), Option.bind_some]
/-- volatile: by its kind, or by the set of the search -/
def rv (h : AH) (s c : Nat) : Prop := hp_i h 106 (900 * s + c) = 1 ∨ (hp_i h 102 27 >>> (nI c &&& 31)) &&& (1 : Int32) = 1
theorem e_vol {s c : Nat} (R : RH h) (hs : hp_i h 102 24 = nI s) (h8 : s < 8) (hc : c < 6) : (rv h s c ∧ f_X11_isVolatile 102 (nI c) h = some (1, h)) ∨ (¬ rv h s c ∧ f_X11_isVolatile 102 (nI c) h = some (0, h)) := by
  have pre : f_X11_isVolatile 102 (nI c) h = if hp_i h 106 (900 * s + c) = 1 then b_X11_isVolatile_23 h else b_X11_isVolatile_11 102 (nI c) h := by
    unfold f_X11_isVolatile b_X11_isVolatile_0
    rw [rh_v R, Option.bind_some, show (0 : Int32) = nI 0 from rfl, nI_add, Nat.zero_add, e_of R hs h8 (by omega), Option.bind_some]
  rw [pre]
  by_cases c1 : hp_i h 106 (900 * s + c) = 1
  · rw [if_pos c1]
    exact Or.inl ⟨Or.inl c1, ok_z_1⟩
  · rw [if_neg c1]
    unfold b_X11_isVolatile_11
    rw [show g_i h 102 11 27 = some (hp_i h 102 27) from if_pos R.1, Option.bind_some]
    by_cases c2 : (hp_i h 102 27 >>> (nI c &&& 31)) &&& (1 : Int32) = 1
    · rw [if_pos c2]
      exact Or.inl ⟨Or.inr c2, ok_z_1⟩
    · rw [if_neg c2]
      exact Or.inr ⟨fun e => e.elim c1 c2, ok_z_0⟩
end
