/-! ===== print: what the class writes ===== -/
/-- the words: plain volatile final thread lock unlock done else, then the signs -/
def wbt (r : Nat) : List Nat := (js_b.getD (r - 1) []).map (fun v => v.toNatClampNeg)
theorem wbt_l : ∀ r, r < 18 → 1 ≤ r → js_l.getD (r - 1) 0 = (wbt r).length ∧ 0 < (wbt r).length ∧ (wbt r).length ≤ 16 ∧ ∀ i, i < 16 → i < (wbt r).length → (js_b.getD (r - 1) []).getD i 0 = nI ((wbt r).getD i 0) := by decide +kernel
def gp (b : Bool) : List Nat := if b then [] else [32]
/-- the class's text so far -/
def PS (A0 A : Nat → Nat → Int32) (W : List Nat) (b : Bool) : Prop := A 72 0 = nI W.length ∧ A 72 2 = (if b then 1 else 0) ∧ (∀ k, k < W.length → A 73 k = nI (W.getD k 0)) ∧ ∀ r k, r ≠ 73 → ¬ (r = 72 ∧ (k = 0 ∨ k = 2)) → A r k = A0 r k
def GPr (h : AH) : Prop := ok_o h 72 4 ∧ hp_r h 72 1 = 73 ∧ ok_o h 73 100 ∧ hp_l h 73 = 1000
def Wri (h : AH) (f : AH → Option AH) (bs : Bool → List Nat) (fl : Bool → Bool) : Prop := ∀ A W b, PS (hp_i h) A W b → (W ++ bs b).length ≤ 1000 → ∃ A', f (sA h A) = some (sA h A') ∧ PS (hp_i h) A' (W ++ bs b) (fl b)
theorem gd_sn {W : List Nat} {c : Nat} : (W ++ [c]).getD W.length 0 = c := by
  rw [List.getD_eq_getElem?_getD, List.getElem?_append_right (Nat.le_refl _), Nat.sub_self]; rfl
theorem gd_sl {W X : List Nat} {k : Nat} (hk : k < W.length) : (W ++ X).getD k 0 = W.getD k 0 := by
  rw [List.getD_eq_getElem?_getD, List.getD_eq_getElem?_getD, List.getElem?_append_left hk]
section
variable {h : AH} {f f' : AH → Option AH} {bs bs' : Bool → List Nat} {fl fl' : Bool → Bool} {c : Nat}
theorem wr_cg (F : Wri h f bs fl) (e : ∀ b, bs b = bs' b) (e' : ∀ b, fl b = fl' b) : Wri h f bs' fl' := fun A W b P hl => by
  rw [← e b, ← e' b]
  rw [← e b] at hl
  exact F A W b P hl
theorem wr_id : Wri h (fun H => some H) (fun _ => []) (fun b => b) := fun A W b P hl => ⟨A, rfl, by rw [List.append_nil]; exact P⟩
theorem wr_c (F : Wri h f bs fl) (F' : Wri h f' bs' fl') : Wri h (fun H => (f H).bind f') (fun b => bs b ++ bs' (fl b)) (fun b => fl' (fl b)) := fun A W b P hl => by
  have hl' : ((W ++ bs b) ++ bs' (fl b)).length ≤ 1000 := by rw [List.append_assoc]; exact hl
  obtain ⟨A1, x1, x2⟩ := F A W b P (by rw [List.length_append] at hl'; omega)
  obtain ⟨A2, y1, y2⟩ := F' A1 _ _ x2 hl'
  refine ⟨A2, ?_, by rw [← List.append_assoc]; exact y2⟩
  show (f (sA h A)).bind f' = _
  rw [x1, Option.bind_some]
  exact y1
theorem wr_v (G : GPr h) (F : Wri h f bs fl) : Wri h (fun H => (ok_v H 72 4).bind fun _ => f H) bs fl := fun A W b P hl => by
  obtain ⟨A1, x1, x2⟩ := F A W b P hl
  refine ⟨A1, ?_, x2⟩
  show (ok_v (sA h A) 72 4).bind _ = _
  rw [q_v G.1, Option.bind_some]
  exact x1
theorem wr_put (G : GPr h) : Wri h (f_X4_put 72 (nI c)) (fun _ => [c]) (fun _ => false) := fun A W b P hl => by
  obtain ⟨g1, g2, g3, g4⟩ := G
  obtain ⟨p1, p2, p3, p4⟩ := P
  have hW : W.length < 1000 := by rw [List.length_append, List.length_singleton] at hl; omega
  have s73 : s_i (sA h A) 73 (nI W.length) (nI c) = some (sA h (up_2 A 73 W.length (nI c))) := s_iN (h := sA h A) g3 (by show _ < hp_l h 73; omega) (by omega)
  refine ⟨up_2 (up_2 (up_2 A 73 W.length (nI c)) 72 0 (nI (W.length + 1))) 72 2 0, ?_, ?_, ?_, fun k hk => ?_, fun r k h1 h2 => ?_⟩
  · unfold f_X4_put b_X4_put_0
    rw [q_i g1, Option.bind_some, p1, if_neg (show ¬ (1000 : Int32) ≤ nI W.length from nI_ge (b := 1000) (by omega) (by omega))]
    unfold b_X4_put_10
    rw [q_r g1 g2, Option.bind_some, q_i g1, Option.bind_some, p1, s73, Option.bind_some, q_i g1, Option.bind_some, u2 (by omega), p1, q_p g1, Option.bind_some, da]
    unfold b_X4_put_30
    rw [show ∀ B : Nat → Nat → Int32, p_z (sA h B) 72 4 2 (0 : Int32) = some (sA h (up_2 B 72 2 0)) from fun B => if_pos ⟨g1, Or.inl rfl⟩, Option.bind_some]
  · rw [u2 (by omega), u2s, List.length_append, List.length_singleton]
  · rw [u2s]; rfl
  · rw [List.length_append, List.length_singleton] at hk
    rw [u2 (by omega), u2 (by omega)]
    by_cases e : k = W.length
    · rw [e, u2s, gd_sn]
    · rw [u2 (by omega), gd_sl (by omega)]
      exact p3 k (by omega)
  · rw [u2 (by omega), u2 (by omega), u2 (by omega)]
    exact p4 r k h1 h2
theorem wr_gap (G : GPr h) : Wri h (f_X4_putGap 72) gp (fun b => b) := fun A W b P hl => by
  have e0 : f_X4_putGap 72 (sA h A) = if A 72 2 = 0 then b_X4_putGap_7 72 (sA h A) else b_X4_putGap_13 (sA h A) := by
    unfold f_X4_putGap b_X4_putGap_0
    rw [q_i G.1, Option.bind_some]
  rw [e0]
  cases b
  · obtain ⟨A1, x1, x2⟩ := wr_put (c := 32) G A W false P hl
    refine ⟨A1, ?_, x2⟩
    rw [if_pos (show A 72 2 = 0 from P.2.1)]
    unfold b_X4_putGap_7 b_X4_putGap_13
    rw [q_v G.1, Option.bind_some, show f_X4_put 72 (32 : Int32) (sA h A) = _ from x1, Option.bind_some]
  · refine ⟨A, ?_, by show PS _ _ (W ++ []) true; rw [List.append_nil]; exact P⟩
    rw [if_neg (by rw [P.2.1]; decide)]
    rfl
theorem wr_sign (G : GPr h) : Wri h (f_X4_writeSign 72 (nI c)) (fun b => gp b ++ [c]) (fun _ => false) := wr_cg (wr_v G (wr_c (wr_gap G) (wr_v G (wr_c (wr_put G) wr_id)))) (fun b => by cases b <;> rfl) (fun b => rfl)
theorem wr_name {a : Nat} (G : GPr h) : Wri h (f_X4_writeName 72 (nI a) (nI c)) (fun b => gp b ++ [a, 48 + c]) (fun _ => false) := by
  have : Wri h (fun H => (ok_v H 72 4).bind fun _ => (f_X4_putGap 72 H).bind fun h2 => (ok_v h2 72 4).bind fun _ => (f_X4_put 72 (nI a) h2).bind fun h4 => (ok_v h4 72 4).bind fun _ => (f_X4_put 72 ((48 : Int32) + nI c) h4).bind fun h6 => some h6) (fun b => gp b ++ [a, 48 + c]) (fun _ => false) := by
    rw [ad]
    exact wr_cg (wr_v G (wr_c (wr_gap G) (wr_v G (wr_c (wr_put (c := a) G) (wr_v G (wr_c (wr_put (c := 48 + c) G) wr_id)))))) (fun b => by cases b <;> rfl) (fun b => rfl)
  exact this
theorem wr_el (G : GPr h) : Wri h (f_X4_endLine 72) (fun _ => [10]) (fun _ => true) := fun A W b P hl => by
  obtain ⟨A1, x1, x2⟩ := wr_put (c := 10) G A W b P hl
  refine ⟨up_2 A1 72 2 1, ?_, ?_, u2s, fun k hk => ?_, fun r k h1 h2 => ?_⟩
  · unfold f_X4_endLine b_X4_endLine_0
    rw [q_v G.1, Option.bind_some, show f_X4_put 72 (10 : Int32) (sA h A) = _ from x1, Option.bind_some, show p_z (sA h A1) 72 4 2 (1 : Int32) = some (sA h (up_2 A1 72 2 1)) from if_pos ⟨G.1, Or.inr rfl⟩, Option.bind_some]
  · rw [u2 (by omega)]; exact x2.1
  · rw [u2 (by omega)]; exact x2.2.2.1 k hk
  · rw [u2 (by omega)]; exact x2.2.2.2 r k h1 h2
theorem wr_es (G : GPr h) : Wri h (f_X4_endStatement 72) (fun _ => [59, 10]) (fun _ => true) := wr_cg (wr_v G (wr_c (wr_put (c := 59) G) (wr_v G (wr_c (wr_el G) wr_id)))) (fun b => rfl) (fun b => rfl)
theorem wr_word {r : Nat} (G : GPr h) (h1 : 1 ≤ r) (h2 : r < 18) : Wri h (f_X4_writeWord 72 r) (fun b => gp b ++ wbt r) (fun _ => false) := by
  obtain ⟨w1, w2, w3, w4⟩ := wbt_l r h2 h1
  have key : ∀ j fu A W b, j ≤ (wbt r).length → j < fu → PS (hp_i h) A W b → W.length + j ≤ 1000 → (j = 0 → b = false) → ∃ A', l_X4_writeWord_6 fu 72 r (nI ((wbt r).length - j)) (sA h A) = some (sA h A') ∧ PS (hp_i h) A' (W ++ (wbt r).drop ((wbt r).length - j)) false := by
    intro j
    induction j with
    | zero =>
      intro fu A W b _ hf P _ hb
      obtain ⟨fu, rfl⟩ : ∃ f', fu = f' + 1 := ⟨fu - 1, by omega⟩
      rw [hb rfl] at P
      refine ⟨A, ?_, by rw [Nat.sub_zero, List.drop_length, List.append_nil]; exact P⟩
      show b_X4_writeWord_6 (l_X4_writeWord_6 fu) 72 r (nI (wbt r).length) (sA h A) = _
      unfold b_X4_writeWord_6
      rw [show f_J0_length r (sA h A) = some (nI (wbt r).length, sA h A) from (if_pos ⟨h1, by omega⟩).trans (by rw [w1]; rfl), Option.bind_some, if_pos (nI_le (Nat.le_refl _) (by omega))]
      rfl
    | succ j ih =>
      intro fu A W b hj hf P hl _
      obtain ⟨fu, rfl⟩ : ∃ f', fu = f' + 1 := ⟨fu - 1, by omega⟩
      have ej : (wbt r).length - j = (wbt r).length - (j + 1) + 1 := by omega
      have ih' := fun A W b => ih fu A W b (by omega) (by omega)
      rw [ej] at ih'
      generalize hi : (wbt r).length - (j + 1) = i at *
      have hin : i < (wbt r).length := by omega
      obtain ⟨A1, x1, x2⟩ := wr_put (c := (wbt r).getD i 0) G A W b P (by rw [List.length_append, List.length_singleton]; omega)
      obtain ⟨A2, y1, y2⟩ := ih' A1 _ _ x2 (by rw [List.length_append, List.length_singleton]; omega) (fun _ => rfl)
      refine ⟨A2, ?_, ?_⟩
      · show b_X4_writeWord_6 (l_X4_writeWord_6 fu) 72 r (nI i) (sA h A) = _
        unfold b_X4_writeWord_6
        rw [show f_J0_length r (sA h A) = some (nI (wbt r).length, sA h A) from (if_pos ⟨h1, by omega⟩).trans (by rw [w1]; rfl), Option.bind_some, if_neg (nI_ge hin (by omega))]
        unfold b_X4_writeWord_14
        rw [show f_J0_charAt r (nI i) (sA h A) = some (nI ((wbt r).getD i 0), sA h A) from (if_pos ⟨⟨h1, by omega⟩, nI_pos (by omega), by rw [nI_clamp (by omega), w1]; exact hin⟩).trans (by rw [nI_clamp (by omega), w4 i (by omega) hin]), Option.bind_some, q_v G.1, Option.bind_some, x1, Option.bind_some, da]
        exact y1
      · have : (wbt r).drop i = (wbt r).getD i 0 :: (wbt r).drop (i + 1) := by
          rw [List.drop_eq_getElem_cons hin, List.getD_eq_getElem?_getD, List.getElem?_eq_getElem hin]; rfl
        rw [this]
        rw [List.append_assoc] at y2
        exact y2
  have loop : Wri h (l_X4_writeWord_6 fu_ 72 r (0 : Int32)) (fun _ => wbt r) (fun _ => false) := fun A W b P hl => by
    obtain ⟨A2, y1, y2⟩ := key (wbt r).length fu_ A W b (Nat.le_refl _) (by unfold fu_; omega) P (by rw [List.length_append] at hl; exact hl) (by omega)
    rw [Nat.sub_self] at y1 y2
    exact ⟨A2, y1, y2⟩
  exact wr_v G (wr_c (wr_gap G) loop)
end
/-- what an expression is written as -/
def bex (bs dg : Int32) : List Nat := if bs = -1 then [32, 48 + ix dg] else if dg = -1 then [32, 114, 48 + ix bs] else [32, 114, 48 + ix bs, 32, 43, 32, 48 + ix dg]
def be (x : Ent) : List Nat :=
  if en_op x = 0 then [114, 48 + ix (en_tl x), 32, 61, 32, 117 + ix (en_ob x), 59, 10] else if en_op x = 1 then [117 + ix (en_ob x), 32, 61] ++ bex (en_bs x) (en_dg x) ++ [59, 10]
  else if en_op x = 2 then [114, 48 + ix (en_tl x), 32, 61, 32, 114, 48 + ix (en_bs x), 46, 117 + ix (en_ob x), 59, 10] else if en_op x = 3 then wbt 6 ++ [32, 109, 48 + ix (en_ob x), 59, 10] else if en_op x = 4 then wbt 7 ++ [32, 109, 48 + ix (en_ob x), 59, 10]
  else if en_op x = 5 then wbt 8 ++ [59, 10] else if en_op x = 6 then [114, 48 + ix (en_tl x), 32, 61] ++ bex (en_bs x) (en_dg x) ++ [59, 10] else if en_op x = 7 then wbt 12 ++ [32, 114, 48 + ix (en_tl x), 32, 61, 61, 32, 48 + ix (en_dg x), 32, 123, 10]
  else if en_op x = 8 then wbt 14 ++ [10] else [125, 10]
theorem bex_l {bs dg : Int32} : (bex bs dg).length ≤ 7 := by
  unfold bex
  split
  · show 2 ≤ 7; omega
  · split
    · show 3 ≤ 7; omega
    · show 7 ≤ 7; omega
theorem be_l {x : Ent} : (be x).length ≤ 13 := by
  have q := bex_l (bs := en_bs x) (dg := en_dg x)
  unfold be
  by_cases c0 : en_op x = 0
  · rw [if_pos c0]; show 8 ≤ 13; omega
  rw [if_neg c0]
  by_cases c1 : en_op x = 1
  · rw [if_pos c1, List.length_append, List.length_append]; show 3 + _ + 2 ≤ 13; omega
  rw [if_neg c1]
  by_cases c2 : en_op x = 2
  · rw [if_pos c2]; show 11 ≤ 13; omega
  rw [if_neg c2]
  by_cases c3 : en_op x = 3
  · rw [if_pos c3, List.length_append, show (wbt 6).length = 4 from by decide]; show 4 + 5 ≤ 13; omega
  rw [if_neg c3]
  by_cases c4 : en_op x = 4
  · rw [if_pos c4, List.length_append, show (wbt 7).length = 6 from by decide]; show 6 + 5 ≤ 13; omega
  rw [if_neg c4]
  by_cases c5 : en_op x = 5
  · rw [if_pos c5, List.length_append, show (wbt 8).length = 4 from by decide]; show 4 + 2 ≤ 13; omega
  rw [if_neg c5]
  by_cases c6 : en_op x = 6
  · rw [if_pos c6, List.length_append, List.length_append]; show 4 + _ + 2 ≤ 13; omega
  rw [if_neg c6]
  by_cases c7 : en_op x = 7
  · rw [if_pos c7, List.length_append, show (wbt 12).length = 2 from by decide]; show 2 + 11 ≤ 13; omega
  rw [if_neg c7]
  by_cases c8 : en_op x = 8
  · rw [if_pos c8, List.length_append, show (wbt 14).length = 8 from by decide]; show 8 + 1 ≤ 13; omega
  rw [if_neg c8]
  show 2 ≤ 13; omega
section
variable {h : AH} {d : PD} {co e : Nat}
/-- the code's rows, which printing leaves -/
def CoR (h : AH) (co : Nat) (d : PD) : Prop := ok_o h co 0 ∧ (∀ i, i < 10 → 126 ≤ hp_r h co i ∧ ok_o h (hp_r h co i) 100 ∧ hp_l h (hp_r h co i) = m_len i ∧ hp_i h (hp_r h co i) = pR d i) ∧ hp_i h co = pR d 10 ∧ 126 ≤ co
theorem wr_rd {f : Int32 → AH → Option AH} {bs : Bool → List Nat} {fl : Bool → Bool} {i : Nat} (C : CoR h co d) (hi : i < 10) (he : e < m_len i) (F : Wri h (f (pR d i e)) bs fl) : Wri h (fun H => (g_r H co 0 i).bind fun x => (l_i H x (nI e)).bind fun v => f v H) bs fl := fun A W b P hl => by
  obtain ⟨A1, x1, x2⟩ := F A W b P hl
  obtain ⟨c1, c2, c3, c4⟩ := C
  obtain ⟨r1, r2, r3, r4⟩ := c2 i hi
  refine ⟨A1, ?_, x2⟩
  have l64 : m_len i ≤ 64 := by
    unfold m_len
    split
    · omega
    · split <;> omega
  show (g_r (sA h A) co 0 i).bind _ = _
  rw [q_r c1 rfl, Option.bind_some, show l_i (sA h A) (hp_r h co i) (nI e) = some (A (hp_r h co i) e) from l_iN (h := sA h A) r2 (by show e < hp_l h (hp_r h co i); omega) (by omega), Option.bind_some, P.2.2.2 _ _ (by omega) (by omega), r4]
  exact x1
theorem m_len64 {i : Nat} (hi : i < 7) : m_len i = 64 := by
  obtain z | z | z | z | z | z | z : i = 0 ∨ i = 1 ∨ i = 2 ∨ i = 3 ∨ i = 4 ∨ i = 5 ∨ i = 6 := by omega
  all_goals (rw [z]; rfl)
theorem wr_163 (G : GPr h) : Wri h (b_X4_writeAssignment_163 72) (fun _ => [59, 10]) (fun _ => true) := wr_cg (wr_v G (wr_c (wr_es G) wr_id)) (fun b => rfl) (fun b => rfl)
/-- an assignment's second half: behind the sign = -/
theorem wr_75 {op : Nat} {bs dg : Int32} (G : GPr h) (C : CoR h co d) (he : e < 64) (h2 : pR d 2 e = bs) (h3 : pR d 3 e = dg) (ho : op = 1 ∨ op = 6) (hb : bs = -1 ∨ ∃ b, b < 5 ∧ bs = nI b) (hd : dg = -1 ∨ ∃ d, d ≤ 9 ∧ dg = nI d) (hn : bs = -1 → dg ≠ -1) : Wri h (b_X4_writeAssignment_47 72 co (nI e) (nI op)) (fun b => gp b ++ [61] ++ bex bs dg ++ [59, 10]) (fun _ => true) := by
  have n0 : ¬ nI op = (0 : Int32) := by rcases ho with z | z <;> rw [z] <;> decide
  have n2 : ¬ nI op = (2 : Int32) := by rcases ho with z | z <;> rw [z] <;> decide
  have l : ∀ i, i < 7 → e < m_len i := fun i hi => by rw [m_len64 hi]; exact he
  -- the digit
  have w150 : ∀ k, k ≤ 9 → dg = nI k → Wri h (b_X4_writeAssignment_150 72 co (nI e)) (fun b => gp b ++ [48 + k, 59, 10]) (fun _ => true) := fun k hk e1 => by
    have : Wri h (fun H => (g_r H co 0 3).bind fun x1 => (l_i H x1 (nI e)).bind fun v => (fun (v : Int32) H => (ok_v H 72 4).bind fun _ => (f_X4_writeSign 72 ((48 : Int32) + v) H).bind fun h4 => b_X4_writeAssignment_163 72 h4) v H) (fun b => gp b ++ [48 + k, 59, 10]) (fun _ => true) := by
      refine wr_rd C (by omega) (l 3 (by omega)) ?_
      rw [h3, e1]
      show Wri h (fun H => (ok_v H 72 4).bind fun _ => (f_X4_writeSign 72 ((48 : Int32) + nI k) H).bind fun h4 => b_X4_writeAssignment_163 72 h4) _ _
      rw [ad]
      exact wr_cg (wr_v G (wr_c (wr_sign (c := 48 + k) G) (wr_163 G))) (fun b => by cases b <;> rfl) (fun b => rfl)
    exact this
  -- behind the base
  have w75 : Wri h (b_X4_writeAssignment_75 72 co (nI e) (nI op)) (fun b => (if dg = -1 then [] else if bs = -1 then gp b ++ [48 + ix dg] else gp b ++ [43, 32, 48 + ix dg]) ++ [59, 10]) (fun _ => true) := by
    have : Wri h (fun H => (g_r H co 0 3).bind fun x1 => (l_i H x1 (nI e)).bind fun v => (fun (v : Int32) H => if v = (-1 : Int32) then b_X4_writeAssignment_163 72 H else b_X4_writeAssignment_134 72 co (nI e) H) v H) (fun b => (if dg = -1 then [] else if bs = -1 then gp b ++ [48 + ix dg] else gp b ++ [43, 32, 48 + ix dg]) ++ [59, 10]) (fun _ => true) := by
      refine wr_rd C (by omega) (l 3 (by omega)) ?_
      rw [h3]
      rcases hd with z | ⟨k, k1, k2⟩
      · show Wri h (fun H => if dg = (-1 : Int32) then b_X4_writeAssignment_163 72 H else b_X4_writeAssignment_134 72 co (nI e) H) _ _
        have e1 : (fun H => if dg = (-1 : Int32) then b_X4_writeAssignment_163 72 H else b_X4_writeAssignment_134 72 co (nI e) H) = b_X4_writeAssignment_163 72 := by
          funext H
          rw [if_pos z]
        rw [e1]
        exact wr_cg (wr_163 G) (fun b => by rw [if_pos z]; rfl) (fun b => rfl)
      · have nd : ¬ dg = -1 := by rw [k2]; exact nI_ne1 (by omega)
        show Wri h (fun H => if dg = (-1 : Int32) then b_X4_writeAssignment_163 72 H else b_X4_writeAssignment_134 72 co (nI e) H) _ _
        have e1 : (fun H => if dg = (-1 : Int32) then b_X4_writeAssignment_163 72 H else b_X4_writeAssignment_134 72 co (nI e) H) = b_X4_writeAssignment_134 72 co (nI e) := by
          funext H
          rw [if_neg nd]
        rw [e1]
        refine wr_cg (bs := fun b => (if bs = -1 then gp b ++ [48 + ix dg] else gp b ++ [43, 32, 48 + ix dg]) ++ [59, 10]) ?_ (fun b => by rw [if_neg nd]) (fun b => rfl)
        have e2 : ix dg = k := by rw [k2]; exact ix_nI (by omega)
        have : Wri h (fun H => (g_r H co 0 2).bind fun x1 => (l_i H x1 (nI e)).bind fun v => (fun (v : Int32) H => if v = (-1 : Int32) then b_X4_writeAssignment_150 72 co (nI e) H else b_X4_writeAssignment_144 72 co (nI e) H) v H) (fun b => (if bs = -1 then gp b ++ [48 + ix dg] else gp b ++ [43, 32, 48 + ix dg]) ++ [59, 10]) (fun _ => true) := by
          refine wr_rd C (by omega) (l 2 (by omega)) ?_
          rw [h2]
          by_cases zb : bs = -1
          · have e3 : (fun H => if bs = (-1 : Int32) then b_X4_writeAssignment_150 72 co (nI e) H else b_X4_writeAssignment_144 72 co (nI e) H) = b_X4_writeAssignment_150 72 co (nI e) := by
              funext H
              rw [if_pos zb]
            show Wri h (fun H => if bs = (-1 : Int32) then b_X4_writeAssignment_150 72 co (nI e) H else b_X4_writeAssignment_144 72 co (nI e) H) _ _
            rw [e3]
            exact wr_cg (w150 k k1 k2) (fun b => by rw [if_pos zb, e2]; cases b <;> rfl) (fun b => rfl)
          · have e3 : (fun H => if bs = (-1 : Int32) then b_X4_writeAssignment_150 72 co (nI e) H else b_X4_writeAssignment_144 72 co (nI e) H) = b_X4_writeAssignment_144 72 co (nI e) := by
              funext H
              rw [if_neg zb]
            show Wri h (fun H => if bs = (-1 : Int32) then b_X4_writeAssignment_150 72 co (nI e) H else b_X4_writeAssignment_144 72 co (nI e) H) _ _
            rw [e3]
            exact wr_cg (wr_v G (wr_c (wr_word (r := 17) G (by omega) (by omega)) (w150 k k1 k2))) (fun b => by rw [if_neg zb, e2]; cases b <;> rfl) (fun b => rfl)
        exact this
    have e4 : b_X4_writeAssignment_75 72 co (nI e) (nI op) = fun H => (g_r H co 0 3).bind fun x1 => (l_i H x1 (nI e)).bind fun v => (fun (v : Int32) H => if v = (-1 : Int32) then b_X4_writeAssignment_163 72 H else b_X4_writeAssignment_134 72 co (nI e) H) v H := by
      funext H
      unfold b_X4_writeAssignment_75
      rw [if_neg n0]
      unfold b_X4_writeAssignment_96
      rw [if_neg n2]
      rfl
    rw [e4]
    exact this
  -- the base
  have w47 : Wri h (fun H => (g_r H co 0 2).bind fun x1 => (l_i H x1 (nI e)).bind fun v => (fun (v : Int32) H => if v = (-1 : Int32) then b_X4_writeAssignment_75 72 co (nI e) (nI op) H else b_X4_writeAssignment_63 72 co (nI e) (nI op) H) v H) (fun b => (if bs = -1 then gp b ++ [48 + ix dg] else if dg = -1 then gp b ++ [114, 48 + ix bs] else gp b ++ [114, 48 + ix bs, 32, 43, 32, 48 + ix dg]) ++ [59, 10]) (fun _ => true) := by
    refine wr_rd C (by omega) (l 2 (by omega)) ?_
    rw [h2]
    rcases hb with zb | ⟨k, k1, k2⟩
    · have nd := hn zb
      have e3 : (fun H => if bs = (-1 : Int32) then b_X4_writeAssignment_75 72 co (nI e) (nI op) H else b_X4_writeAssignment_63 72 co (nI e) (nI op) H) = b_X4_writeAssignment_75 72 co (nI e) (nI op) := by
        funext H
        rw [if_pos zb]
      show Wri h (fun H => if bs = (-1 : Int32) then b_X4_writeAssignment_75 72 co (nI e) (nI op) H else b_X4_writeAssignment_63 72 co (nI e) (nI op) H) _ _
      rw [e3]
      refine wr_cg w75 (fun b => ?_) (fun b => rfl)
      rw [if_neg nd, if_pos zb, if_pos zb]
    · have zb : ¬ bs = -1 := by rw [k2]; exact nI_ne1 (by omega)
      have e3 : (fun H => if bs = (-1 : Int32) then b_X4_writeAssignment_75 72 co (nI e) (nI op) H else b_X4_writeAssignment_63 72 co (nI e) (nI op) H) = b_X4_writeAssignment_63 72 co (nI e) (nI op) := by
        funext H
        rw [if_neg zb]
      show Wri h (fun H => if bs = (-1 : Int32) then b_X4_writeAssignment_75 72 co (nI e) (nI op) H else b_X4_writeAssignment_63 72 co (nI e) (nI op) H) _ _
      rw [e3]
      refine wr_cg (bs := fun b => (if dg = -1 then gp b ++ [114, 48 + ix bs] else gp b ++ [114, 48 + ix bs, 32, 43, 32, 48 + ix dg]) ++ [59, 10]) ?_ (fun b => by rw [if_neg zb]) (fun b => rfl)
      have e2 : ix bs = k := by rw [k2]; exact ix_nI (by omega)
      have : Wri h (fun H => (g_r H co 0 2).bind fun x1 => (l_i H x1 (nI e)).bind fun v => (fun (v : Int32) H => (ok_v H 72 4).bind fun _ => (f_X4_writeName 72 (114 : Int32) v H).bind fun h4 => b_X4_writeAssignment_75 72 co (nI e) (nI op) h4) v H) (fun b => (if dg = -1 then gp b ++ [114, 48 + ix bs] else gp b ++ [114, 48 + ix bs, 32, 43, 32, 48 + ix dg]) ++ [59, 10]) (fun _ => true) := by
        refine wr_rd C (by omega) (l 2 (by omega)) ?_
        rw [h2]
        show Wri h (fun H => (ok_v H 72 4).bind fun _ => (f_X4_writeName 72 (114 : Int32) bs H).bind fun h4 => b_X4_writeAssignment_75 72 co (nI e) (nI op) h4) _ _
        rw [e2, k2]
        refine wr_cg (wr_v G (wr_c (wr_name (a := 114) (c := k) G) w75)) (fun b => ?_) (fun b => rfl)
        rw [if_neg zb]
        by_cases nd : dg = -1
        · rw [if_pos nd, if_pos nd]; rfl
        · rw [if_neg nd, if_neg nd]; cases b <;> rfl
      exact this
  refine wr_cg (wr_v G (wr_c (wr_word (r := 16) G (by omega) (by omega)) w47)) (fun b => ?_) (fun b => rfl)
  unfold bex
  by_cases zb : bs = -1
  · rw [if_pos zb, if_pos zb]; cases b <;> rfl
  · rw [if_neg zb, if_neg zb]
    by_cases nd : dg = -1
    · rw [if_pos nd, if_pos nd]; cases b <;> rfl
    · rw [if_neg nd, if_neg nd]; cases b <;> rfl
end
