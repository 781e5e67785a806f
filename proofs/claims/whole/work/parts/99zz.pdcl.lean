/-! ===== the two readers together: the declarations ===== -/
def dcf (kd : Nat → Int32) (c : Nat) : Nat := if kd c = -1 then 0 else 1
def dcr (kd : Nat → Int32) : Nat → Nat
  | 0 => 0
  | n + 1 => dcf kd (6 - (n + 1)) + dcr kd n
def dcn (kd : Nat → Int32) : Nat := dcr kd 6
def KDI (kd : Nat → Int32) : Prop := dcn kd ≤ 5 ∧ ∀ c, c < 6 → kd c = -1 ∨ ∃ k, k < 3 ∧ kd c = nI k
theorem dcn_e {kd : Nat → Int32} : dcn kd = dcf kd 0 + (dcf kd 1 + (dcf kd 2 + (dcf kd 3 + (dcf kd 4 + (dcf kd 5 + 0))))) := rfl
theorem dcf_u {kd : Nat → Int32} {c e : Nat} {v : Int32} : dcf (up_1 kd c v) e = if e = c then (if v = -1 then 0 else 1) else dcf kd e := by
  unfold dcf up_1
  by_cases q : e = c
  · rw [if_pos q, if_pos q]
  · rw [if_neg q, if_neg q]
theorem dcn_u {kd : Nat → Int32} {c : Nat} {v : Int32} (hc : c < 6) (hk : kd c = -1) (hv : v ≠ -1) : dcn (up_1 kd c v) = dcn kd + 1 := by
  have z : dcf kd c = 0 := if_pos hk
  rw [dcn_e, dcn_e, dcf_u, dcf_u, dcf_u, dcf_u, dcf_u, dcf_u, if_neg hv]
  obtain e | e | e | e | e | e : c = 0 ∨ c = 1 ∨ c = 2 ∨ c = 3 ∨ c = 4 ∨ c = 5 := by omega
  all_goals
    subst e
    rw [z]
    simp only [if_pos rfl, show ¬ (0 : Nat) = 1 by decide, show ¬ (0 : Nat) = 2 by decide, show ¬ (0 : Nat) = 3 by decide, show ¬ (0 : Nat) = 4 by decide, show ¬ (0 : Nat) = 5 by decide, show ¬ (1 : Nat) = 0 by decide, show ¬ (1 : Nat) = 2 by decide, show ¬ (1 : Nat) = 3 by decide, show ¬ (1 : Nat) = 4 by decide, show ¬ (1 : Nat) = 5 by decide, show ¬ (2 : Nat) = 0 by decide, show ¬ (2 : Nat) = 1 by decide, show ¬ (2 : Nat) = 3 by decide, show ¬ (2 : Nat) = 4 by decide, show ¬ (2 : Nat) = 5 by decide, show ¬ (3 : Nat) = 0 by decide, show ¬ (3 : Nat) = 1 by decide, show ¬ (3 : Nat) = 2 by decide, show ¬ (3 : Nat) = 4 by decide, show ¬ (3 : Nat) = 5 by decide, show ¬ (4 : Nat) = 0 by decide, show ¬ (4 : Nat) = 1 by decide, show ¬ (4 : Nat) = 2 by decide, show ¬ (4 : Nat) = 3 by decide, show ¬ (4 : Nat) = 5 by decide, show ¬ (5 : Nat) = 0 by decide, show ¬ (5 : Nat) = 1 by decide, show ¬ (5 : Nat) = 2 by decide, show ¬ (5 : Nat) = 3 by decide, show ¬ (5 : Nat) = 4 by decide, if_false, if_true]
    omega
/-- bitCount of six bits -/
def bcv (a : Int32) : Int32 :=
  let a1 := a - ((us_i a (1 : Int32)) &&& (1431655765 : Int32))
  let a2 := (a1 &&& (858993459 : Int32)) + ((us_i a1 (2 : Int32)) &&& (858993459 : Int32))
  let a3 := (a2 + (us_i a2 (4 : Int32))) &&& (252645135 : Int32)
  let a4 := a3 + (us_i a3 (8 : Int32))
  let a5 := a4 + (us_i a4 (16 : Int32))
  a5 &&& (63 : Int32)
def pc6 (w : Nat) : Nat := (if w.testBit 0 then 1 else 0) + ((if w.testBit 1 then 1 else 0) + ((if w.testBit 2 then 1 else 0) + ((if w.testBit 3 then 1 else 0) + ((if w.testBit 4 then 1 else 0) + (if w.testBit 5 then 1 else 0)))))
theorem bcv_6 : ∀ w, w < 64 → bcv (nI w) = nI (pc6 w) := by decide
theorem bc_6 {w : Nat} {h : AH} (hw : w < 64) : f_J6_bitCount_0f7a4 (nI w) h = some (nI (pc6 w), h) := by
  rw [← bcv_6 w hw]
  rfl
section
variable {Z Z2 : Nat → Nat → Int32} {tp : Nat → Nat} {n cnt B : Nat} {h g : AH} {A A' A2 A0 A1 : Nat → Nat → Int32} {j j' : Nat} {kd kd' : Nat → Int32} {rC rR : Option (Int32 × AH)}
theorem t_adv (Q : CQ h B) (S : CT_ Z B tp n cnt A j) (hj : j + 1 < 2 ^ 20) : ∃ A', f_X7_advance 69 (sA h A) = some (sA h A') ∧ CT_ Z B tp n cnt A' (j + 1) ∧ ∀ r k, r ≠ 69 → A' r k = A r k := by
  obtain ⟨s1, s2, s3, s4, s5, s6⟩ := S
  have X := cq_xc (j := j) Q ⟨s1, s2, s3, s4, s5, s6⟩
  have hc := s2.1
  have eta : sI (sI (sA h A) 70 (A 70)) 69 (A 69) = sA h A := by
    have e1 : sI (sA h A) 70 (A 70) = sA h A := sI_eta (h := sA h A) (r := 70)
    rw [e1]
    exact sI_eta (h := sA h A) (r := 69)
  have h8 : A 69 8 + 1 = nI (j + 1) ∨ (A 69 8 = nI cnt ∧ cnt < j + 1) := by
    obtain ⟨-, -, -, -, -, e8⟩ := s1
    rw [e8]
    by_cases c : j < cnt
    · left; rw [Nat.min_eq_left (by omega), da]
    · right; rw [Nat.min_eq_right (by omega)]; exact ⟨rfl, by omega⟩
  obtain ⟨f', x1, x2, x3⟩ := z_adv (f := A 69) X s2 s1.2.2.2.1 s1.2.2.2.2.1 h8 (by omega)
  rw [eta] at x1
  have e2 : sI (sI (sA h A) 70 (A 70)) 69 f' = sA h (uR A 69 f') := by
    have e1 : sI (sA h A) 70 (A 70) = sA h A := sI_eta (h := sA h A) (r := 70)
    rw [e1]
    rfl
  rw [e2] at x1
  have ne69 : ∀ r k, r ≠ 69 → uR A 69 f' r k = A r k := fun r k hr => if_neg hr
  have hB := Q.2.2.2.2.2.1
  exact ⟨uR A 69 f', x1, ⟨by rw [uR_s]; exact x2, by rw [uR_n (by decide)]; exact s2, s3, s4, fun k hk => by rw [ne69 _ _ (by decide)]; exact s5 k hk, hj, fun r k hr => by rw [ne69 _ _ (by omega)]; exact s6.2 r k hr⟩, ne69⟩
theorem t_tok {k : Nat} (S : CT_ Z B tp n cnt A j) (hk : k < 256) : A 69 0 = nI k ↔ ckd (tk tp n j).1 = k := by
  have k1 := ckd_256 (tk tp n j).1
  rw [S.1.1]
  exact nI_eq (by omega) (by omega)
theorem t_wh {x : Nat} (S : CT_ Z B tp n cnt A j) (hx : cw1 (tk tp n j).1 = x + 1) : A 69 1 = nI x := by
  have := S.1.2.1
  rw [hx, ← nI_1] at this
  have h2 : A 69 1 + 1 - 1 = nI x + 1 - 1 := by rw [this]
  rw [Int32.add_sub_cancel, Int32.add_sub_cancel] at h2
  exact h2
theorem t_rt (Q : CQ h B) (S : CT_ Z B tp n cnt A j) : ∃ A', f_X6_refuseToken 68 (sA h A) = some (0, sA h A') ∧ CF Z B A' 1 (tk tp n j).2.1 := by
  obtain ⟨A', x1, x2⟩ := c_refuse (A := A) (k := 1) (p := (tk tp n j).2.1) Q S.2.2.2.2.2.2
  refine ⟨A', ?_, x2⟩
  unfold f_X6_refuseToken b_X6_refuseToken_0
  rw [q_68 Q, Option.bind_some, c_pl Q, Option.bind_some, S.1.2.2.1, q_v Q.1.1, Option.bind_some, show f_X6_refuse 68 (1 : Int32) (nI (tk tp n j).2.1) (sA h A) = _ from x1, Option.bind_some]
  exact ok_z_0
theorem t_j (S : CT_ Z B tp n cnt A j) (hc : (tk tp n j).1 ≠ 0) : j < 1000 := by
  obtain ⟨-, ⟨t1, t2, t3⟩, -⟩ := S
  by_cases c : j < cnt
  · omega
  · exact absurd (by rw [t3 j (by omega)]) hc
/-- the states while the declarations are read -/
def DS (Z : Nat → Nat → Int32) (B : Nat) (tp : Nat → Nat) (n cnt : Nat) (A0 A : Nat → Nat → Int32) (j : Nat) (kd : Nat → Int32) : Prop := CT_ Z B tp n cnt A j ∧ (∀ c, c < 8 → A (B + 12) c = kd c) ∧ ∀ r k, r ≠ 69 → r ≠ B + 12 → A r k = A0 r k
def DRf (Z2 : Nat → Nat → Int32) (tp : Nat → Nat) (n : Nat) (A1 A : Nat → Nat → Int32) (j : Nat) (kd : Nat → Int32) : Prop := RT Z2 tp n A j ∧ (∀ c, c < 6 → A 107 c = kd c) ∧ ∀ r k, ¬ (r = 102 ∧ (k = 5 ∨ k = 6 ∨ k = 7)) → ¬ (r = 107 ∧ k < 6) → A r k = A1 r k
def D1 (A1 : Nat → Nat → Int32) : Prop := A1 102 11 = 0 ∧ A1 102 15 = 0 ∧ A1 107 6 = 0 ∧ A1 107 7 = 0 ∧ A1 107 12 = 0
def DG (Z Z2 : Nat → Nat → Int32) (B : Nat) (h g : AH) (tp : Nat → Nat) (n cnt : Nat) (A0 A1 : Nat → Nat → Int32) (j : Nat) (rC rR : Option (Int32 × AH)) : Prop :=
  ∃ A' A2' j' kd', rC = some (1, sA h A') ∧ rR = some (1, sA g A2') ∧ DS Z B tp n cnt A0 A' j' kd' ∧ DRf Z2 tp n A1 A2' j' kd' ∧ KDI kd' ∧ j ≤ j' ∧ j' ≤ 1000
theorem dr_wb {p : Nat} (D : D1 A1) (S : DRf Z2 tp n A1 A2 j kd) : WB Z2 tp n 0 p A2 j 0 := by
  obtain ⟨d1, d2, d3, d4, d5⟩ := D
  obtain ⟨a, b, c⟩ := S
  exact ⟨a, Or.inl ⟨rfl, by rw [c _ _ (by omega) (by omega)]; exact d1⟩, ⟨0, by rw [c _ _ (by omega) (by omega)]; exact d2, Nat.le_refl _⟩, ⟨0, by rw [c _ _ (by omega) (by omega)]; exact d3, by omega⟩, ⟨0, by rw [c _ _ (by omega) (by omega)]; exact d5, by omega⟩⟩
theorem d_look (R : RZ g) (S : DRf Z2 tp n A1 A2 j kd) : ∃ A', f_X11_look0 102 (sA g A2) = some (sA g A') ∧ DRf Z2 tp n A1 A' (j + 1) kd := by
  obtain ⟨a, b, c⟩ := S
  obtain ⟨A', x1, x2, x3⟩ := r_look R a
  exact ⟨A', x1, x2, fun q hq => by rw [x3 _ _ (by omega)]; exact b q hq, fun r k k1 k2 => by rw [x3 _ _ k1]; exact c r k k1 k2⟩
theorem d_next (R : RZ g) (D : D1 A1) (S : DRf Z2 tp n A1 A2 j kd) : ∃ A', f_X11_next 102 (sA g A2) = some (sA g A') ∧ DRf Z2 tp n A1 A' (j + 1) kd := by
  obtain ⟨A', x1, x2⟩ := d_look R S
  refine ⟨A', ?_, x2⟩
  unfold f_X11_next b_X11_next_0
  rw [v_r7 R, Option.bind_some, show l_i (sA g A2) 107 (7 : Int32) = _ from v_l7 (k := 7) R (by omega), Option.bind_some, S.2.2 _ _ (by omega) (by omega), D.2.2.2.1, if_pos (show (0 : Int32) ≤ 0 by decide)]
  unfold b_X11_next_54
  rw [v_v R, Option.bind_some, x1, Option.bind_some]
theorem d_bad1 (R : RZ g) (D : D1 A1) (S : DRf Z2 tp n A1 A2 j kd) : ∃ A', (g_i (sA g A2) 102 11 7).bind (fun x1 => (ok_v (sA g A2) 102 11).bind fun _ => (f_X11_bad 102 1 x1 (sA g A2)).bind fun h3 => ok_z 0 h3) = some (0, sA g A') ∧ FT Z2 tp n 1 (tk tp n j).2.1 A' := by
  have hn := S.1.2.1
  have P := tk_pl (tp := tp) (n := n) (j := j) hn
  obtain ⟨A', x1, x2, -⟩ := w_bg (k := 1) (q := (tk tp n j).2.1) R (dr_wb (p := (tk tp n j).2.1) D S) (Or.inl rfl) (by omega) (by omega) (by omega)
  rw [bqq_e] at x2
  refine ⟨A', ?_, ⟨by decide, _, _, x2⟩⟩
  rw [v_g R, Option.bind_some, v_v R, Option.bind_some, S.1.1.2.2.2, show f_X11_bad 102 (1 : Int32) (nI (tk tp n j).2.1) (sA g A2) = _ from x1, Option.bind_some]
  exact ok_z_0
/-- declaredCells -/
theorem d_cnt (Q : CQ h B) (S : DS Z B tp n cnt A0 A j kd) : f_X5_declaredCells (B + 11) (sA h A) = some (nI (dcn kd), sA h A) := by
  have o1 : ok_o (sA h A) (B + 11) 5 := Q.2.2.1.1
  have e1 : hp_r (sA h A) (B + 11) 1 = B + 12 := Q.2.2.1.2
  obtain ⟨w, w1, w2, w3⟩ := e_cok (k := -1) (kd := A (B + 12)) (g := sA h A) (pr := B + 11) o1 (by rw [e1]; exact Q.2.2.2.1.1) (by rw [e1]; exact Q.2.2.2.1.2) (by rw [e1]; rfl)
  have f : ∀ c, c < 6 → (if w.testBit c then 1 else 0) + dcf kd c = 1 := fun c hc => by
    have := w3 c hc
    rw [S.2.1 c (by omega)] at this
    unfold dcf
    by_cases q : kd c = -1
    · rw [if_pos q, if_pos (this.mpr q)]
    · rw [if_neg q, if_neg (fun z => q (this.mp z))]
  have f0 := f 0 (by omega)
  have f1 := f 1 (by omega)
  have f2 := f 2 (by omega)
  have f3 := f 3 (by omega)
  have f4 := f 4 (by omega)
  have f5 := f 5 (by omega)
  have e : pc6 w + dcn kd = 6 := by
    rw [dcn_e]
    unfold pc6
    omega
  unfold f_X5_declaredCells b_X5_declaredCells_0
  rw [q_v Q.2.2.1.1, Option.bind_some, show f_X5_cellsOfKind (B + 11) (-1 : Int32) (sA h A) = _ from w2, Option.bind_some, bc_6 w1, Option.bind_some]
  congr 2
  show (6 : Int32) - nI (pc6 w) = nI (dcn kd)
  have : (6 : Int32) = nI (dcn kd) + nI (pc6 w) := by rw [nI_add, Nat.add_comm, e]; rfl
  rw [this, Int32.add_sub_cancel]
/-- the reference counts the declared cells -/
theorem d_many {r32 : Nat → Int32 → AH → Option (Int32 × AH)} {a1 : Int32} (R : RZ g) (S : DRf Z2 tp n A1 A2 j kd) : ∀ m f s, m ≤ 6 → m < f → l_X11_declaration_44 r32 f 102 a1 (nI s) (nI (6 - m)) (sA g A2) = b_X11_declaration_76 r32 102 a1 (nI (s + dcr kd m)) (sA g A2) := by
  intro m
  induction m with
  | zero =>
    intro f s _ hf
    obtain ⟨f, rfl⟩ : ∃ f', f = f' + 1 := ⟨f - 1, by omega⟩
    show b_X11_declaration_44 r32 (l_X11_declaration_44 r32 f) 102 a1 (nI s) (nI 6) (sA g A2) = _
    unfold b_X11_declaration_44
    rw [if_pos (show (6 : Int32) ≤ nI 6 by decide)]
    rfl
  | succ m ih =>
    intro f s hm hf
    obtain ⟨f, rfl⟩ : ∃ f', f = f' + 1 := ⟨f - 1, by omega⟩
    show b_X11_declaration_44 r32 (l_X11_declaration_44 r32 f) 102 a1 (nI s) (nI (6 - (m + 1))) (sA g A2) = _
    unfold b_X11_declaration_44
    rw [if_neg (show ¬ (6 : Int32) ≤ nI (6 - (m + 1)) from nI_ge (b := 6) (by omega) (by omega))]
    unfold b_X11_declaration_50
    rw [v_r7 R, Option.bind_some, ad, Nat.zero_add, v_l7 R (by omega), Option.bind_some, S.2.1 _ (by omega)]
    have e6 : 6 - (m + 1) + 1 = 6 - m := by omega
    show (if kd (6 - (m + 1)) = -1 then _ else _) = b_X11_declaration_76 r32 102 a1 (nI (s + (dcf kd (6 - (m + 1)) + dcr kd m))) (sA g A2)
    unfold dcf
    by_cases q : kd (6 - (m + 1)) = -1
    · rw [if_pos q, if_pos q]
      unfold b_X11_declaration_63 b_X11_declaration_68
      rw [da, da, e6, ih f _ (by omega) (by omega), Nat.zero_add]
      rfl
    · rw [if_neg q, if_neg q]
      unfold b_X11_declaration_67 b_X11_declaration_68
      rw [da, da, e6, ih f _ (by omega) (by omega), ← Nat.add_assoc]
/-- a SEMICOLON -/
theorem d_semi (Q : CQ h B) (R : RZ g) (D : D1 A1) (S : DS Z B tp n cnt A0 A j kd) (S2 : DRf Z2 tp n A1 A2 j kd) (I : KDI kd) : DG Z Z2 B h g tp n cnt A0 A1 j (b_X6_readDeclaration_122 68 (sA h A)) (b_X11_declaration_142 102 (sA g A2)) ∨ BF Z Z2 B h g tp n (b_X6_readDeclaration_122 68 (sA h A)) (b_X11_declaration_142 102 (sA g A2)) := by
  have C := tk_code (tp := tp) (n := n) (j := j)
  have C3 := cd_3 C
  have hn := S2.1.2.1
  unfold b_X6_readDeclaration_122 b_X11_declaration_142 f_X6_pass b_X6_pass_0 f_X11_need b_X11_need_0
  rw [q_v Q.1.1, Option.bind_some, q_68 Q, Option.bind_some, c_k Q, Option.bind_some, v_v R, Option.bind_some, v_g R, Option.bind_some, S2.1.1.2.2.1]
  have e : A 69 0 = (15 : Int32) ↔ (tk tp n j).1 = 700 := (t_tok (k := 15) S.1 (by omega)).trans (ckd_al2 C).2.2.2.2.1
  by_cases c : (tk tp n j).1 = 700
  · left
    have jl := t_j S.1 (by omega)
    obtain ⟨A3, x1, x2, x3⟩ := t_adv Q S.1 (by omega)
    obtain ⟨B3, y1, y2⟩ := d_next R D S2
    refine ⟨A3, B3, j + 1, kd, ?_, ?_, ⟨x2, fun q hq => by rw [x3 _ _ (by have := Q.2.2.2.2.2.1; omega)]; exact S.2.1 q hq, fun r k k1 k2 => by rw [x3 _ _ k1]; exact S.2.2 r k k1 k2⟩, y2, I, by omega, by omega⟩
    · rw [if_pos (e.mpr c)]
      unfold b_X6_pass_24
      rw [q_68 Q, Option.bind_some, q_v Q.2.2.2.2.2.2.1, Option.bind_some, x1, Option.bind_some]
      exact bz ok_z_1 (Or.inr rfl)
    · rw [if_pos (show nI (tk tp n j).1 = (700 : Int32) by rw [c]; rfl)]
      unfold b_X11_need_19
      rw [v_v R, Option.bind_some, y1, Option.bind_some]
      exact bz ok_z_1 (Or.inr rfl)
  · right
    obtain ⟨A3, f1, f2⟩ := c_refuse (A := A) (k := 1) (p := (tk tp n j).2.1) Q S.1.2.2.2.2.2.2
    obtain ⟨B3, m1, m2⟩ := d_bad1 R D S2
    refine ⟨1, _, A3, B3, ?_, f2, ?_, m2⟩
    · rw [if_neg (fun z => c (e.mp z))]
      unfold b_X6_pass_11
      rw [q_68 Q, Option.bind_some, c_pl Q, Option.bind_some, S.1.1.2.2.1, q_v Q.1.1, Option.bind_some, show f_X6_refuse 68 (1 : Int32) (nI (tk tp n j).2.1) (sA h A) = _ from f1, Option.bind_some]
      exact bz ok_z_0 (Or.inl rfl)
    · rw [if_neg (show ¬ nI (tk tp n j).1 = (700 : Int32) from fun z => c ((nI_eq (b := 700) (by omega) (by omega)).mp z))]
      exact bz m1 (Or.inl rfl)
theorem dg_le (hj : j ≤ j') (G : DG Z Z2 B h g tp n cnt A0 A1 j' rC rR) : DG Z Z2 B h g tp n cnt A0 A1 j rC rR := by
  obtain ⟨a, b, c, d, e1, e2, e3, e4, e5, e6, e7⟩ := G
  exact ⟨a, b, c, d, e1, e2, e3, e4, e5, by omega, e7⟩
theorem d_loop {kn : Nat} (Q : CQ h B) (R : RZ g) (D : D1 A1) (hkn : kn < 3) : ∀ r f1 f2 m A A2 j kd, 1000 - j < r → r ≤ f1 → r ≤ f2 → m ≤ j → DS Z B tp n cnt A0 A j kd → DRf Z2 tp n A1 A2 j kd → KDI kd →
    DG Z Z2 B h g tp n cnt A0 A1 j (l_X6_readDeclaration_19 f1 68 (nI kn) (nI m) (sA h A)) (l_X11_declaration_32 f2 102 (nI kn) (sA g A2)) ∨ BF Z Z2 B h g tp n (l_X6_readDeclaration_19 f1 68 (nI kn) (nI m) (sA h A)) (l_X11_declaration_32 f2 102 (nI kn) (sA g A2)) := by
  intro r
  induction r with
  | zero => intro f1 f2 m A A2 j kd h1; omega
  | succ r ih =>
    intro f1 f2 m A A2 j kd h1 h2 h3 hm S S2 I
    obtain ⟨f1, rfl⟩ : ∃ f, f1 = f + 1 := ⟨f1 - 1, by omega⟩
    obtain ⟨f2, rfl⟩ : ∃ f, f2 = f + 1 := ⟨f2 - 1, by omega⟩
    have hB := Q.2.2.2.2.2.1
    have C := tk_code (tp := tp) (n := n) (j := j)
    have C3 := cd_3 C
    have hn := S2.1.2.1
    have P := tk_pl (tp := tp) (n := n) (j := j) hn
    show DG Z Z2 B h g tp n cnt A0 A1 j (b_X6_readDeclaration_19 (l_X6_readDeclaration_19 f1) 68 (nI kn) (nI m) (sA h A)) (b_X11_declaration_32 (l_X11_declaration_32 f2) 102 (nI kn) (sA g A2)) ∨ BF Z Z2 B h g tp n (b_X6_readDeclaration_19 (l_X6_readDeclaration_19 f1) 68 (nI kn) (nI m) (sA h A)) (b_X11_declaration_32 (l_X11_declaration_32 f2) 102 (nI kn) (sA g A2))
    have e : A 69 0 = (11 : Int32) ↔ (tk tp n j).1 / 100 = 3 := (t_tok (k := 11) S.1 (by omega)).trans (ckd_al2 C).1
    unfold b_X6_readDeclaration_19 b_X6_readDeclaration_26 b_X11_declaration_32
    rw [q_68 Q, Option.bind_some, c_k Q, Option.bind_some, v_v R, Option.bind_some, w_kind R S2.1, Option.bind_some]
    by_cases c3 : (tk tp n j).1 / 100 = 3
    · have jl := t_j S.1 (by omega)
      have c6 := C3.1 c3
      have cw : cw1 (tk tp n j).1 = (tk tp n j).1 % 100 + 1 := cw1_w (by omega) (by omega)
      generalize hc : (tk tp n j).1 % 100 = c at *
      have wh := t_wh S.1 cw
      rw [if_neg (show ¬ (1000 : Int32) ≤ nI m from nI_ge (b := 1000) (by omega) (by omega)), if_pos (e.mpr c3), if_pos (kf_p (v := 3) c3 rfl)]
      unfold b_X6_readDeclaration_38 b_X11_declaration_40
      rw [q_68 Q, Option.bind_some, c_w Q, Option.bind_some, q_pr Q, Option.bind_some, q_kr Q, Option.bind_some, wh, and7 (by omega), q_l Q.2.2.2.1.1 (by rw [Q.2.2.2.1.2]; omega) (by omega), Option.bind_some, S.2.1 c (by omega)]
      rw [show l_X11_declaration_44 (l_X11_declaration_32 f2) fu_ 102 (nI kn) (0 : Int32) (0 : Int32) (sA g A2) = _ from d_many (r32 := l_X11_declaration_32 f2) (a1 := nI kn) R S2 6 fu_ 0 (by omega) (by unfold fu_; omega)]
      rw [Nat.zero_add]
      have e0 : dcr kd 6 = dcn kd := rfl
      rw [e0]
      unfold b_X11_declaration_76
      rw [v_r7 R, Option.bind_some, v_v R, Option.bind_some, w_which R S2.1, Option.bind_some, hc, ad, Nat.zero_add, v_l7 R (by omega), Option.bind_some, S2.2.1 c (by omega)]
      have fault : ∀ K (A3 : Nat → Nat → Int32), WB Z2 tp n K (tk tp n j).2.1 A3 j 0 → 0 < K → b_X11_declaration_114 (l_X11_declaration_32 f2) 102 (nI kn) (sA g A3) = some (0, sA g A3) ∧ FT Z2 tp n K (tk tp n j).2.1 A3 := fun K A3 W hK => by
        have F : FT Z2 tp n K (tk tp n j).2.1 A3 := ⟨hK, _, _, W⟩
        refine ⟨?_, F⟩
        unfold b_X11_declaration_114
        rw [v_g R, Option.bind_some, if_neg (ft_n0 F)]
        exact ok_z_0
      have bad4 : ∀ K (A3 : Nat → Nat → Int32), WB Z2 tp n K (tk tp n j).2.1 A3 j 0 → A3 102 7 = nI (tk tp n j).2.1 → ∃ A4, b_X11_declaration_105 (l_X11_declaration_32 f2) 102 (nI kn) (sA g A3) = b_X11_declaration_114 (l_X11_declaration_32 f2) 102 (nI kn) (sA g A4) ∧ WB Z2 tp n (bd K 4) (tk tp n j).2.1 A4 j 0 := fun K A3 W h7 => by
        obtain ⟨A4, x1, x2, -⟩ := w_bg (k := 4) (q := (tk tp n j).2.1) R W (Or.inl rfl) (by omega) (by omega) (by omega)
        rw [bqq_e] at x2
        refine ⟨A4, ?_, x2⟩
        unfold b_X11_declaration_105
        rw [v_g R, Option.bind_some, v_v R, Option.bind_some, h7, show f_X11_bad 102 (4 : Int32) (nI (tk tp n j).2.1) (sA g A3) = _ from x1, Option.bind_some]
      have n5 : nI (dcn kd) = (5 : Int32) ↔ dcn kd = 5 := nI_eq (b := 5) (by have := I.1; omega) (by omega)
      by_cases k1 : kd c = -1
      · rw [if_pos k1, if_pos k1]
        unfold b_X6_readDeclaration_75 b_X11_declaration_100
        rw [q_pr Q, Option.bind_some, q_v Q.2.2.1.1, Option.bind_some, d_cnt Q S, Option.bind_some]
        by_cases k5 : dcn kd = 5
        · right
          rw [if_neg (show ¬ nI (dcn kd) < (5 : Int32) from nI_nlt (b := 5) (by omega) (by omega)), if_pos (n5.mpr k5)]
          obtain ⟨A3, f1, f2'⟩ := c_refuse (A := A) (k := 4) (p := (tk tp n j).2.1) Q S.1.2.2.2.2.2.2
          obtain ⟨B3, x1, x2⟩ := bad4 0 A2 (dr_wb (tp := tp) D S2) S2.1.1.2.2.2
          obtain ⟨y1, y2⟩ := fault _ B3 x2 (by decide)
          refine ⟨4, _, A3, B3, ?_, f2', x1.trans y1, y2⟩
          unfold b_X6_readDeclaration_86
          rw [q_68 Q, Option.bind_some, c_pl Q, Option.bind_some, S.1.1.2.2.1, q_v Q.1.1, Option.bind_some]
          exact bz (v := 0) f1 (Or.inl rfl)
        · have i5 := I.1
          rw [if_pos (show nI (dcn kd) < (5 : Int32) from nI_lt (b := 5) (by omega) (by omega)), if_neg (fun z => k5 (n5.mp z))]
          have S3 : CT_ Z B tp n cnt (up_2 A (B + 12) c (nI kn)) j := by
            obtain ⟨s1, s2, s3, s4, s5, s6, s7⟩ := S.1
            exact ⟨by rw [u2r (by omega)]; exact s1, by rw [u2r (by omega)]; exact s2, s3, s4, fun k hk => by rw [u2 (by omega)]; exact s5 k hk, s6, fun r k hr => by rw [u2 (by omega)]; exact s7 r k hr⟩
          obtain ⟨A4, x1, x2, x3⟩ := t_adv Q S3 (by omega)
          have S4 : DRf Z2 tp n A1 (up_2 A2 107 c (nI kn)) j (up_1 kd c (nI kn)) := by
            refine ⟨rt_cg S2.1 (fun r k k1 k2 k3 => u2 (by omega)), fun q hq => ?_, fun r k k1 k2 => by rw [u2 (by omega)]; exact S2.2.2 r k k1 k2⟩
            unfold up_1
            by_cases q0 : q = c
            · rw [q0, u2s, if_pos rfl]
            · rw [u2 (by omega), if_neg q0]; exact S2.2.1 q hq
          obtain ⟨B4, y1, y2⟩ := d_look R S4
          have S5 : DS Z B tp n cnt A0 A4 (j + 1) (up_1 kd c (nI kn)) := by
            refine ⟨x2, fun q hq => ?_, fun r k k1 k2 => by rw [x3 _ _ k1, u2 (by omega)]; exact S.2.2 r k k1 k2⟩
            rw [x3 _ _ (by omega)]
            unfold up_1
            by_cases q0 : q = c
            · rw [q0, u2s, if_pos rfl]
            · rw [u2 (by omega), if_neg q0]; exact S.2.1 q hq
          have I2 : KDI (up_1 kd c (nI kn)) := by
            refine ⟨by rw [dcn_u c6 k1 (nI_ne1 (by omega))]; omega, fun q hq => ?_⟩
            unfold up_1
            by_cases q0 : q = c
            · rw [if_pos q0]; exact Or.inr ⟨kn, hkn, rfl⟩
            · rw [if_neg q0]; exact I.2 q hq
          have G := ih f1 f2 (m + 1) A4 B4 (j + 1) (up_1 kd c (nI kn)) (by omega) (by omega) (by omega) (by omega) S5 y2 I2
          unfold b_X6_readDeclaration_99 b_X11_declaration_114
          rw [q_pr Q, Option.bind_some, q_kr Q, Option.bind_some, q_s Q.2.2.2.1.1 (by rw [Q.2.2.2.1.2]; omega) (by omega), Option.bind_some, q_68 Q, Option.bind_some, q_v Q.2.2.2.2.2.2.1, Option.bind_some, x1, Option.bind_some, da, v_g R, Option.bind_some, S2.2.2 _ _ (by omega) (by omega), D.1, if_pos rfl]
          unfold b_X11_declaration_123
          rw [v_r7 R, Option.bind_some, v_v R, Option.bind_some, w_which R S2.1, Option.bind_some, hc, ad, Nat.zero_add, v_s7 R (by omega), Option.bind_some, v_v R, Option.bind_some, y1, Option.bind_some]
          exact G.imp (dg_le (by omega)) id
      · right
        rw [if_neg k1, if_neg k1]
        obtain ⟨A3, f1', f2'⟩ := c_refuse (A := A) (k := 2) (p := (tk tp n j).2.1) Q S.1.2.2.2.2.2.2
        obtain ⟨B3, x1, x2, x3⟩ := w_bg (k := 2) (q := (tk tp n j).2.1) R (dr_wb (p := (tk tp n j).2.1) D S2) (Or.inl rfl) (by omega) (by omega) (by omega)
        rw [bqq_e] at x2
        have h7 : B3 102 7 = nI (tk tp n j).2.1 := by rw [x3 _ _ (by omega)]; exact S2.1.1.2.2.2
        have fin : ∃ B5, b_X11_declaration_100 (l_X11_declaration_32 f2) 102 (nI kn) (nI (dcn kd)) (sA g B3) = some (0, sA g B5) ∧ FT Z2 tp n 2 (tk tp n j).2.1 B5 := by
          unfold b_X11_declaration_100
          by_cases k5 : dcn kd = 5
          · rw [if_pos (n5.mpr k5)]
            obtain ⟨B4, y1, y2⟩ := bad4 _ B3 x2 h7
            obtain ⟨z1, z2⟩ := fault _ B4 y2 (by decide)
            exact ⟨B4, y1.trans z1, z2⟩
          · rw [if_neg (fun z => k5 (n5.mp z))]
            obtain ⟨z1, z2⟩ := fault _ B3 x2 (by decide)
            exact ⟨B3, z1, z2⟩
        obtain ⟨B5, y1, y2⟩ := fin
        refine ⟨2, _, A3, B5, ?_, f2', ?_, y2⟩
        · unfold b_X6_readDeclaration_62
          rw [q_68 Q, Option.bind_some, c_pl Q, Option.bind_some, S.1.1.2.2.1, q_v Q.1.1, Option.bind_some]
          exact bz (v := 0) f1' (Or.inl rfl)
        · unfold b_X11_declaration_91
          rw [v_g R, Option.bind_some, v_v R, Option.bind_some, S2.1.1.2.2.2, show f_X11_bad 102 (2 : Int32) (nI (tk tp n j).2.1) (sA g A2) = _ from x1, Option.bind_some]
          exact y1
    · rw [if_neg (fun z => c3 (e.mp z)), if_neg (kf_n (v := 3) c3 rfl (by omega) (by omega)), ite_self]
      exact d_semi Q R D S S2 I
theorem d_one {kn : Nat} (Q : CQ h B) (R : RZ g) (D : D1 A1) (hkn : kn < 3) (S : DS Z B tp n cnt A0 A j kd) (S2 : DRf Z2 tp n A1 A2 j kd) (I : KDI kd) (hc : (tk tp n j).1 = 200 + kn) :
    ∃ A3, f_X7_advance 69 (sA h A) = some (sA h A3) ∧ (DG Z Z2 B h g tp n cnt A0 A1 (j + 1) (f_X6_readDeclaration 68 (nI kn) (sA h A3)) (f_X11_declaration 102 (sA g A2)) ∨ BF Z Z2 B h g tp n (f_X6_readDeclaration 68 (nI kn) (sA h A3)) (f_X11_declaration 102 (sA g A2))) := by
  have jl := t_j S.1 (by omega)
  have hB := Q.2.2.2.2.2.1
  obtain ⟨A3, x1, x2, x3⟩ := t_adv Q S.1 (by omega)
  refine ⟨A3, x1, ?_⟩
  have S3 : DS Z B tp n cnt A0 A3 (j + 1) kd := ⟨x2, fun q hq => by rw [x3 _ _ (by omega)]; exact S.2.1 q hq, fun r k k1 k2 => by rw [x3 _ _ k1]; exact S.2.2 r k k1 k2⟩
  obtain ⟨B3, y1, y2⟩ := d_look R S2
  have C := tk_code (tp := tp) (n := n) (j := j + 1)
  have C3 := cd_3 C
  have e : A3 69 0 = (11 : Int32) ↔ (tk tp n (j + 1)).1 / 100 = 3 := (t_tok (k := 11) S3.1 (by omega)).trans (ckd_al2 C).1
  unfold f_X6_readDeclaration b_X6_readDeclaration_0 f_X11_declaration b_X11_declaration_0
  rw [q_68 Q, Option.bind_some, c_k Q, Option.bind_some, v_g R, Option.bind_some, v_v R, Option.bind_some, y1, Option.bind_some, v_v R, Option.bind_some, w_kind R y2.1, Option.bind_some, S2.1.1.2.2.1, hc]
  have ek : nI (200 + kn) - (200 : Int32) = nI kn := by
    rw [Nat.add_comm, ← da]
    exact Int32.add_sub_cancel _ _
  rw [ek]
  by_cases c3 : (tk tp n (j + 1)).1 / 100 = 3
  · rw [if_pos (e.mpr c3), if_pos (kf_p (v := 3) c3 rfl)]
    unfold b_X6_readDeclaration_17
    exact d_loop Q R D hkn 1001 fu_ fu_ 0 A3 B3 (j + 1) kd (by omega) (by unfold fu_; omega) (by unfold fu_; omega) (by omega) S3 y2 I
  · right
    rw [if_neg (fun z => c3 (e.mp z)), if_neg (kf_n (v := 3) c3 rfl (by omega) (by omega))]
    obtain ⟨A5, f1, f2⟩ := t_rt Q S3.1
    obtain ⟨B5, m1, m2⟩ := d_bad1 R D y2
    refine ⟨1, _, A5, B5, ?_, f2, m1, m2⟩
    unfold b_X6_readDeclaration_12
    rw [q_v Q.1.1, Option.bind_some]
    exact bz f1 (Or.inl rfl)
theorem d_all (Q : CQ h B) (R : RZ g) (D : D1 A1) : ∀ r f1 f2 m A A2 j kd, 1000 - j < r → r ≤ f1 → r ≤ f2 → m ≤ j → j ≤ 1000 → DS Z B tp n cnt A0 A j kd → DRf Z2 tp n A1 A2 j kd → KDI kd →
    (∃ A' A2' j' kd', l_X6_readDeclarations_2 f1 68 (nI m) (sA h A) = some (1, sA h A') ∧ l_X11_reads_97 f2 102 (sA g A2) = l_X11_reads_122 fu_ 102 (sA g A2') ∧ DS Z B tp n cnt A0 A' j' kd' ∧ DRf Z2 tp n A1 A2' j' kd' ∧ KDI kd' ∧ j' ≤ 1000) ∨ BF Z Z2 B h g tp n (l_X6_readDeclarations_2 f1 68 (nI m) (sA h A)) (l_X11_reads_97 f2 102 (sA g A2)) := by
  intro r
  induction r with
  | zero => intro f1 f2 m A A2 j kd h1; omega
  | succ r ih =>
    intro f1 f2 m A A2 j kd h1 h2 h3 hm hj S S2 I
    obtain ⟨f1, rfl⟩ : ∃ f, f1 = f + 1 := ⟨f1 - 1, by omega⟩
    obtain ⟨f2, rfl⟩ : ∃ f, f2 = f + 1 := ⟨f2 - 1, by omega⟩
    have C := tk_code (tp := tp) (n := n) (j := j)
    have C3 := cd_3 C
    show (∃ A' A2' j' kd', b_X6_readDeclarations_2 (l_X6_readDeclarations_2 f1) 68 (nI m) (sA h A) = some (1, sA h A') ∧ b_X11_reads_97 (l_X11_reads_97 f2) 102 (sA g A2) = l_X11_reads_122 fu_ 102 (sA g A2') ∧ DS Z B tp n cnt A0 A' j' kd' ∧ DRf Z2 tp n A1 A2' j' kd' ∧ KDI kd' ∧ j' ≤ 1000) ∨ BF Z Z2 B h g tp n (b_X6_readDeclarations_2 (l_X6_readDeclarations_2 f1) 68 (nI m) (sA h A)) (b_X11_reads_97 (l_X11_reads_97 f2) 102 (sA g A2))
    have k1 := ckd_256 (tk tp n j).1
    have t2 : A 69 0 = (2 : Int32) ↔ (tk tp n j).1 = 200 := (t_tok (k := 2) S.1 (by omega)).trans (ckd_all C).2.1
    have t3 : A 69 0 = (3 : Int32) ↔ (tk tp n j).1 = 201 := (t_tok (k := 3) S.1 (by omega)).trans (ckd_all C).2.2.1
    have t4 : A 69 0 = (4 : Int32) ↔ (tk tp n j).1 = 202 := (t_tok (k := 4) S.1 (by omega)).trans (ckd_all C).2.2.2.1
    have kw : f_X6_kindOfWord (A 69 0) (sA h A) = some (if (tk tp n j).1 = 200 ∨ (tk tp n j).1 = 201 ∨ (tk tp n j).1 = 202 then nI ((tk tp n j).1 - 200) else -1, sA h A) := by
      unfold f_X6_kindOfWord b_X6_kindOfWord_0
      by_cases c0 : (tk tp n j).1 = 200
      · rw [if_pos (t2.mpr c0), if_pos (Or.inl c0), c0]; rfl
      · rw [if_neg (fun z => c0 (t2.mp z))]
        by_cases c1 : (tk tp n j).1 = 201
        · rw [if_pos (t3.mpr c1), if_pos (Or.inr (Or.inl c1)), c1]; rfl
        · rw [if_neg (fun z => c1 (t3.mp z))]
          by_cases c2 : (tk tp n j).1 = 202
          · rw [if_pos (t4.mpr c2), if_pos (Or.inr (Or.inr c2)), c2]; rfl
          · rw [if_neg (fun z => c2 (t4.mp z)), if_neg (by omega)]; rfl
    unfold b_X6_readDeclarations_2 b_X6_readDeclarations_9 b_X11_reads_97
    rw [q_68 Q, Option.bind_some, c_k Q, Option.bind_some, kw, Option.bind_some, v_g R, Option.bind_some, S2.1.1.2.2.1, show f_X11_isIn (nI (tk tp n j).1) (200 : Int32) (202 : Int32) (sA g A2) = _ from x_in (lo := 200) (hi := 202) (by omega) (by omega) (by omega), Option.bind_some]
    by_cases c : (tk tp n j).1 = 200 ∨ (tk tp n j).1 = 201 ∨ (tk tp n j).1 = 202
    · have jl := t_j S.1 (by omega)
      obtain ⟨kn, hkn, hc⟩ : ∃ kn, kn < 3 ∧ (tk tp n j).1 = 200 + kn := ⟨(tk tp n j).1 - 200, by omega, by omega⟩
      rw [if_neg (show ¬ (1000 : Int32) ≤ nI m from nI_ge (b := 1000) (by omega) (by omega)), if_pos c, if_pos (show 200 ≤ (tk tp n j).1 ∧ (tk tp n j).1 ≤ 202 by omega), show (tk tp n j).1 - 200 = kn by omega, if_neg (nI_ne1 (show kn < 2 ^ 31 by omega)), if_neg n10]
      unfold b_X6_readDeclarations_27 b_X11_reads_113
      obtain ⟨A3, x1, x2⟩ := d_one Q R D hkn S S2 I hc
      rw [q_68 Q, Option.bind_some, q_v Q.2.2.2.2.2.2.1, Option.bind_some, x1, Option.bind_some, q_v Q.1.1, Option.bind_some, v_v R, Option.bind_some]
      obtain ⟨A4, B4, j4, kd4, g1, g2, g3, g4, g5, g6, g7⟩ | ⟨K0, p0, A4, B4, g1, g2, g3, g4⟩ := x2
      · rw [g1, Option.bind_some, if_neg n10, g2, Option.bind_some, if_neg n10]
        unfold b_X6_readDeclarations_44
        rw [da]
        exact ih f1 f2 (m + 1) A4 B4 j4 kd4 (by omega) (by omega) (by omega) (by omega) g7 g3 g4 g5
      · right
        rw [g1, Option.bind_some, if_pos rfl, g3, Option.bind_some, if_pos rfl]
        exact ⟨K0, p0, A4, B4, ok_z_0, g2, ok_z_0, g4⟩
    · left
      rw [if_neg c, if_neg (show ¬ (200 ≤ (tk tp n j).1 ∧ (tk tp n j).1 ≤ 202) by omega), if_pos rfl, if_pos rfl]
      exact ⟨A, A2, j, kd, by rw [show b_X6_readDeclarations_50 (sA h A) = b_X6_readDeclarations_25 (sA h A) from rfl, ite_self]; exact ok_z_1, rfl, S, S2, I, hj⟩
end
