/-! ===== the reference's can ===== -/
section
variable {h : AH}
theorem e_can0 {s d t e : Nat} (R : RH h) (hs : hp_i h 102 24 = nI s) (h8 : s < 8) (hd : d < 20) (ht : t < 4) (he : hp_i h 109 (142 * d + t) = nI e) (he' : 60 + 5 * e + 4 < 900) :
    (¬ (hp_i h 102 26 = 1 ∧ ¬ hp_i h 109 (142 * d + (28 + t)) = 0) ∧ f_X11_can 102 (nI d) (nI t) h = b_X11_can_42 102 (nI d) (nI e) (hp_i h 106 (900 * s + (60 + 5 * e))) 1 h) ∨
    ((hp_i h 102 26 = 1 ∧ ¬ hp_i h 109 (142 * d + (28 + t)) = 0) ∧ f_X11_can 102 (nI d) (nI t) h = b_X11_can_42 102 (nI d) (nI e) (hp_i h 106 (900 * s + (60 + 5 * e))) 0 h) := by
  have z : (0 : Int32) + nI t = nI t := by rw [show (0 : Int32) = nI 0 from rfl, nI_add, Nat.zero_add]
  have ei : f_X11_instr 102 (nI e) (0 : Int32) h = some (hp_i h 106 (900 * s + (60 + 5 * e)), h) := e_ins (k := 0) R hs h8 (by omega)
  have pre : f_X11_can 102 (nI d) (nI t) h = if hp_i h 102 26 = 1 then b_X11_can_25 102 (nI d) (nI t) (nI e) (hp_i h 106 (900 * s + (60 + 5 * e))) h else b_X11_can_37 102 (nI d) (nI e) (hp_i h 106 (900 * s + (60 + 5 * e))) h := by
    unfold f_X11_can b_X11_can_0
    rw [rh_v R, Option.bind_some, z, e_st R hd (by omega), Option.bind_some, he, rh_v R, Option.bind_some, ei, Option.bind_some, show g_i h 102 11 26 = some (hp_i h 102 26) from if_pos R.1, Option.bind_some]
  rw [pre]
  by_cases c : hp_i h 102 26 = 1
  · rw [if_pos c]
    unfold b_X11_can_25
    rw [rh_v R, Option.bind_some, show (28 : Int32) = nI 28 from rfl, nI_add, e_st R hd (by omega), Option.bind_some]
    by_cases c2 : hp_i h 109 (142 * d + (28 + t)) = 0
    · rw [if_pos c2]
      exact Or.inl ⟨fun x => x.2 c2, rfl⟩
    · rw [if_neg c2]
      exact Or.inr ⟨⟨c, c2⟩, rfl⟩
  · rw [if_neg c]
    exact Or.inl ⟨fun x => c x.1, rfl⟩
end
