/-! ===== the two readers together: sums ===== -/
def exF (ow : Nat → Int32) (th : Nat) (bs dg : Int32) : Prop := (bs = -1 ∨ ∃ b, b < 5 ∧ bs = nI b ∧ ow b = nI th) ∧ (dg = -1 ∨ ∃ d, d ≤ 9 ∧ dg = nI d) ∧ (bs = -1 → dg ≠ -1)
/-- the reference's expression has found a fault, or goes on with one -/
def rxF (Z2 : Nat → Nat → Int32) (g : AH) (tp : Nat → Nat) (n K p : Nat) (r : Option (Int32 × AH)) : Prop := ∃ v A2', r = some (v, sA g A2') ∧ 0 < K ∧ ((v = 0 ∧ FT Z2 tp n K p A2') ∨ (v = 1 ∧ ∃ j', WB Z2 tp n K p A2' j' 64 ∧ p < (tk tp n j').2.1))
theorem dm100 {c : Nat} : 100 * (c / 100) + c % 100 = c := Nat.div_add_mod c 100
section
variable {Z Z2 : Nat → Nat → Int32} {tp : Nat → Nat} {n cnt B : Nat} {h g : AH} {A A2 A' : Nat → Nat → Int32} {j0 tc j th hd ne st b p : Nat} {E : List Ent} {AL AL2 : List Act} {SL : List Nat} {ow : Nat → Int32} {lb mb mk dn : Int32} {kd : Nat → Int32}
theorem j_sum (Q : CQ h B) (R : RZ g) (S : CS Z tp n cnt B A j th hd ne st E AL SL ow lb mb mk dn kd) (S2 : RR Z2 tp n A2 j0 tc j th hd ne st E AL2 SL ow lb mb mk dn kd) (I : lbI ow lb) (hSL : 0 < SL.length) (htc : tc + 3 < 480) (ej : j = j0 + tc) (hj : j < 2000) (LOw : LO SL.length ow) (hth : th < SL.length) :
    (∃ k bs dg ow' lb' A1 A' A2', f_X6_readTerm 68 (sA h A) = some (1, sA h A1) ∧ CS Z tp n cnt B A1 (j + 1) th hd ne st E AL SL ow' lb' mb mk dn kd ∧ ((A1 68 10 = -1 ∧ A1 68 9 = nI ((tk tp n j).1 % 100) ∧ (tk tp n j).1 / 100 = 4 ∧ owL ow ((tk tp n j).1 % 100) th ((tk tp n j).1 % 100) = nI th) ∨ (¬ A1 68 10 = -1 ∧ (tk tp n j).1 / 100 = 6)) ∧
      f_X6_readPlus 68 (sA h A1) = some (1, sA h A') ∧ CS Z tp n cnt B A' (j + k) th hd ne st E AL SL ow' lb' mb mk dn kd ∧ A' 68 9 = bs ∧ A' 68 10 = dg ∧
      f_X11_expression 102 (sA g A2) = some (1, sA g A2') ∧ RR Z2 tp n A2' j0 (tc + k) (j + k) th hd ne st E AL2 SL ow' lb' mb mk dn kd ∧ (∃ b l, b < 2 ∧ l < 5 ∧ A2' 102 21 = nI b ∧ A2' 102 22 = nI l ∧ exR bs dg b l (A2' 102 23)) ∧
      exF ow' th bs dg ∧ lbI ow' lb' ∧ LO SL.length ow' ∧ (∀ l, l < 5 → ow l ≠ -1 → ow' l = ow l) ∧ (k = 1 ∨ k = 3) ∧ (k = 3 → (tk tp n (j + 1)).1 = 704 ∧ (tk tp n (j + 2)).1 / 100 = 6) ∧ TLn tp n j0 (tc + k) = TLn tp n j0 tc ++ rnx bs dg) ∨
    (∃ K p A1, f_X6_readTerm 68 (sA h A) = some (0, sA h A1) ∧ CF Z B A1 K p ∧ rxF Z2 g tp n K p (f_X11_expression 102 (sA g A2))) ∨
    (∃ K p ow' lb' A1 A', f_X6_readTerm 68 (sA h A) = some (1, sA h A1) ∧ CS Z tp n cnt B A1 (j + 1) th hd ne st E AL SL ow' lb' mb mk dn kd ∧ (tk tp n (j + 1)).1 = 704 ∧ f_X6_readPlus 68 (sA h A1) = some (0, sA h A') ∧ CF Z B A' K p ∧ rxF Z2 g tp n K p (f_X11_expression 102 (sA g A2))) := by
  have hn := S2.1.2.1
  have C := cd_3 (tk_code (tp := tp) (n := n) (j := j))
  have C2 := cd_3 (tk_code (tp := tp) (n := n) (j := j + 2))
  have w3 := S2.2.1.2.2.1
  have w8 := S2.2.2.1
  obtain ⟨c6, A1, x1, x2, x3, x4⟩ | ⟨⟨c4, o⟩, A1, x1, x2, x3, x4⟩ | ⟨⟨c4, o⟩, A1, x1, x2⟩ | ⟨⟨c4, c6⟩, A1, x1, x2⟩ := c_term Q S I (by omega)
  · left
    have d10 := C.2.2.2.1 c6
    obtain ⟨A3, y1, y2, y3, y4, y5⟩ := s_ex1 R S2 hSL (by omega) c6
    obtain ⟨l, l1, l2⟩ := S2.1.2.2.2.2.2
    refine ⟨1, -1, nI ((tk tp n j).1 % 100), ow, lb, A1, A1, A3, x1, x2, Or.inr ⟨?_, c6⟩, c_plus0 (b := -1) (d := 0) Q x2 x3 (Or.inl rfl), x2, x3, x4, y1, y2, ⟨0, l, by omega, l1, y3, by rw [y4, l2], _, by omega, y5, Or.inl ⟨rfl, rfl, rfl⟩⟩, ⟨Or.inl rfl, Or.inr ⟨_, by omega, rfl⟩, fun _ => nI_ne1 (by omega)⟩, I, LOw, fun _ _ _ => rfl, Or.inl rfl, fun z => absurd z (by omega), ?_⟩
    · rw [x4]; exact nI_ne1 (by omega)
    · rw [tln_s, ← ej]
      unfold rnx
      rw [if_pos rfl, ix_nI (by omega)]
      have := dm100 (c := (tk tp n j).1)
      congr 2
      omega
  · have l5 := C.2.1 c4
    obtain ⟨A3, y1, y2, y3, y4, y5⟩ := s_exl R S2 hSL (by omega) c4 rfl o
    have LO' := lo_L (l := (tk tp n j).1 % 100) LOw hth
    have I' := lbI_L (l := (tk tp n j).1 % 100) (th := th) ((cd_3 (tk_code (tp := tp) (n := n) (j := j))).2.1 c4) I
    have dm := dm100 (c := (tk tp n j).1)
    by_cases cp : (tk tp n (j + 1)).1 = 704
    · rw [if_pos cp] at y1
      have t2 : j + 1 + 1 = j + 2 := rfl
      obtain ⟨q6, A4, z1, z2, z3, z4⟩ | ⟨q6, A4, z1, z2⟩ := c_plus1 (l := (tk tp n j).1 % 100) Q x2 x3 l5 cp (by omega)
      · left
        obtain ⟨r6, A5, u1, u2', u3, u4, u5⟩ | ⟨r6, A5, u1, u2'⟩ := s_ex93 (l := (tk tp n j).1 % 100) R y2 hSL (by omega) y3 y4
        · have d10 := C2.2.2.2.1 q6
          refine ⟨3, nI ((tk tp n j).1 % 100), nI ((tk tp n (j + 2)).1 % 100), _, _, A1, A4, A5, x1, x2, Or.inl ⟨x4, x3, c4, o⟩, z1, z2, z3, z4, by rw [y1, u1], u2', ⟨1, _, by omega, l5, u3, u4, (tk tp n (j + 2)).1 % 100, by omega, u5, Or.inr ⟨rfl, rfl, Or.inr rfl⟩⟩, ⟨Or.inr ⟨_, l5, rfl, o⟩, Or.inr ⟨_, by omega, rfl⟩, fun z => absurd z (nI_ne1 (by omega))⟩, I', LO', ow_L, Or.inr rfl, fun _ => ⟨cp, q6⟩, ?_⟩
          rw [show tc + 3 = tc + 1 + 1 + 1 by omega, tln_s, tln_s, tln_s, List.append_assoc, List.append_assoc]
          unfold rnx
          rw [if_neg (nI_ne1 (by omega)), if_neg (nI_ne1 (by omega)), ix_nI (by omega), ix_nI (by omega), show j0 + (tc + 1 + 1) = j + 2 by omega, show j0 + (tc + 1) = j + 1 by omega, ← ej, cp]
          have dm2 := dm100 (c := (tk tp n (j + 2)).1)
          show _ ++ [(tk tp n j).1, 704, (tk tp n (j + 2)).1] = _
          have e1 : 400 + (tk tp n j).1 % 100 = (tk tp n j).1 := by omega
          have e2 : 600 + (tk tp n (j + 2)).1 % 100 = (tk tp n (j + 2)).1 := by
            have : (tk tp n (j + 2)).1 / 100 = 6 := q6
            omega
          rw [e1, e2]
        · exact absurd q6 r6
      · right; right
        obtain ⟨r6, A5, u1, u2', u3, u4, u5⟩ | ⟨r6, A5, u1, u2'⟩ := s_ex93 (l := (tk tp n j).1 % 100) R y2 hSL (by omega) y3 y4
        · exact absurd r6 q6
        · exact ⟨1, _, _, _, A1, A4, x1, x2, cp, z1, z2, 0, A5, by rw [y1, u1], by omega, Or.inl ⟨rfl, u2'⟩⟩
    · left
      rw [if_neg cp] at y1
      refine ⟨1, nI ((tk tp n j).1 % 100), -1, _, _, A1, A1, A3, x1, x2, Or.inl ⟨x4, x3, c4, o⟩, c_plus0 (d := 0) Q x2 x3 (Or.inr cp), x2, x3, x4, y1, y2, ⟨1, _, by omega, l5, y3, y4, 0, by omega, y5, Or.inr ⟨rfl, rfl, Or.inl ⟨rfl, rfl⟩⟩⟩, ⟨Or.inr ⟨_, l5, rfl, o⟩, Or.inl rfl, fun z => absurd z (nI_ne1 (by omega))⟩, I', LO', ow_L, Or.inl rfl, fun z => absurd z (by omega), ?_⟩
      rw [tln_s, ← ej]
      unfold rnx
      rw [if_neg (nI_ne1 (by omega)), if_pos rfl, ix_nI (by omega)]
      have e1 : 400 + (tk tp n j).1 % 100 = (tk tp n j).1 := by omega
      rw [e1]
  · right; left
    have l5 := C.2.1 c4
    obtain ⟨v, A3, j3, y1, y2, y3, y4⟩ := w_expr0 (p := (tk tp n j).2.1) (l := (tk tp n j).1 % 100) R (rr_wb S2) rfl c4 rfl (by
      rw [w8 _ l5, w3]
      intro z
      apply o
      unfold owL
      rcases z with z | z
      · rw [if_pos z, up_same]
      · rw [if_neg (by rw [z]; exact nI_ne1 (by have := S2.2.2.2.2.2.2.2.2.2.2.2.2.2.1; omega))]; exact z)
    refine ⟨3, _, A1, x1, x2, v, A3, y1, by omega, ?_⟩
    rcases y2 with y2 | y2
    · exact Or.inl ⟨y2, by omega, _, _, y3⟩
    · exact Or.inr ⟨y2, _, y3, y4⟩
  · right; left
    obtain ⟨A3, y1, y2⟩ := s_ex5 R S2 c4 c6
    exact ⟨1, _, A1, x1, x2, 0, A3, y1, by omega, Or.inl ⟨rfl, y2⟩⟩
end
