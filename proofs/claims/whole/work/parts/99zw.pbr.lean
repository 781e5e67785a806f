/-! ===== the reference's branch ===== -/
section
variable {Z2 : Nat → Nat → Int32} {tp : Nat → Nat} {n : Nat} {g : AH} {A A2 : Nat → Nat → Int32} {j0 tc j th hd ne st tc' j' st' : Nat} {E E' : List Ent} {AL AL' : List Act} {SL : List Nat} {ow ow' : Nat → Int32} {lb mb mk dn lb' mb' mk' dn' : Int32} {kd : Nat → Int32} {rc : Nat → Int32 → AH → Option (Int32 × AH)}
/-- into a branch -/
theorem s_br0 (S : RR Z2 tp n A j0 tc j th hd ne st E AL SL ow lb mb mk dn kd) (hn : ne < 4) : RR Z2 tp n (up_2 (up_2 A 102 18 (nI hd)) 102 19 (nI (ne + 1))) j0 tc j th hd (ne + 1) st E AL SL ow lb mb mk dn kd :=
  have h4 := S.2.2.2.2.2.2.2.2.2.2.2.2.2.2.1
  rr_ne (rr_ne (k := 18) (v := nI hd) (ne' := ne) (hd' := hd) S (Or.inl ⟨rfl, rfl, rfl⟩) h4 (by omega)) (Or.inr ⟨rfl, rfl, rfl⟩) h4 (by omega)
theorem s_br1 (R : RZ g) (S : RR Z2 tp n A j0 tc j th hd ne st E AL SL ow lb mb mk dn kd) (e : rc 102 (nI hd) (sA g (up_2 (up_2 A 102 18 (nI hd)) 102 19 (nI (ne + 1)))) = some (1, sA g A2)) (S2 : RR Z2 tp n A2 j0 tc' j' th hd (ne + 1) st' E' AL' SL ow' lb' mb' mk' dn' kd) : ∃ A3, f_X11_branch rc 102 (nI hd) (sA g A) = some (1, sA g A3) ∧ RR Z2 tp n A3 j0 tc' j' th hd ne st' E' AL' SL ow' lb' mb' mk' dn' kd := by
  have h4 := S2.2.2.2.2.2.2.2.2.2.2.2.2.2.2.1
  have n4 := S2.2.2.2.2.2.2.2.2.2.2.2.2.2.2.2
  have S3 := rr_ne (k := 19) (v := nI ne) (ne' := ne) (hd' := hd) S2 (Or.inr ⟨rfl, rfl, rfl⟩) h4 (by omega)
  have S4 := rr_ne (k := 18) (v := nI hd) (ne' := ne) (hd' := hd) S3 (Or.inl ⟨rfl, rfl, rfl⟩) h4 (by omega)
  refine ⟨_, ?_, S4⟩
  unfold f_X11_branch b_X11_branch_0
  rw [v_p R, Option.bind_some, v_g R, Option.bind_some, u2 (by omega), S.2.1.2.2.2.2.1, da, v_p R, Option.bind_some, v_v R, Option.bind_some, e, Option.bind_some, if_neg n10]
  unfold b_X11_branch_25
  rw [v_g R, Option.bind_some, S2.2.1.2.2.2.2.1, show nI (ne + 1) - 1 = nI ne from by rw [← nI_1, Int32.add_sub_cancel], v_p R, Option.bind_some, v_p R, Option.bind_some, v_g R, Option.bind_some, S4.2.1.1, if_pos rfl]
  exact ok_z_1
theorem s_br2 (R : RZ g) (S : RR Z2 tp n A j0 tc j th hd ne st E AL SL ow lb mb mk dn kd) (e : rc 102 (nI hd) (sA g (up_2 (up_2 A 102 18 (nI hd)) 102 19 (nI (ne + 1)))) = some (0, sA g A2)) : f_X11_branch rc 102 (nI hd) (sA g A) = some (0, sA g A2) := by
  unfold f_X11_branch b_X11_branch_0
  rw [v_p R, Option.bind_some, v_g R, Option.bind_some, u2 (by omega), S.2.1.2.2.2.2.1, da, v_p R, Option.bind_some, v_v R, Option.bind_some, e, Option.bind_some, if_pos rfl]
  exact ok_z_0
end
