/-! ===== print: entries, threads, declarations ===== -/
theorem nd_n {L : List (Nat × Bool)} : L.foldl nd2 none = none := by
  induction L with
  | nil => rfl
  | cons c L ih =>
    show L.foldl nd2 (nd2 none c) = none
    have : nd2 none c = none := by
      unfold nd2
      by_cases z : c.2 = true
      · rw [if_pos z]; rfl
      · rw [if_neg z]
    rw [this]
    exact ih
theorem nd_t {k : Nat} : ∀ (L : List (Nat × Bool)) (o : Option Nat), L.foldl nd2 o = some k → ∀ c, c ∈ L → c.2 = true := by
  intro L
  induction L with
  | nil => intro o _ c hc; cases hc
  | cons c L ih =>
    intro o e c' hc
    have e : L.foldl nd2 (nd2 o c) = some k := e
    rcases List.mem_cons.mp hc with z | z
    · rw [z]
      by_cases y : c.2 = true
      · exact y
      · exfalso
        have : nd2 o c = none := by
          unfold nd2
          rw [if_neg y]
        rw [this, nd_n] at e
        cases e
    · exact ih _ e c' z
theorem nst_fz {E : List Ent} {k : Nat} (e : nst E = some k) {i : Nat} (hi : i < E.length) : fzb (E.getD i dE) = true := by
  have hm : E.getD i dE ∈ E := by
    rw [List.getD_eq_getElem?_getD, List.getElem?_eq_getElem hi]
    exact List.getElem_mem _
  exact nd_t _ _ e (en_op (E.getD i dE), fzb (E.getD i dE)) (List.mem_map.mpr ⟨_, hm, rfl⟩)
theorem op10 {n : Nat} (h1 : n ≤ 10) (h2 : n ≠ 10) : n = 0 ∨ n = 1 ∨ n = 2 ∨ n = 3 ∨ n = 4 ∨ n = 5 ∨ n = 6 ∨ n = 7 ∨ n = 8 ∨ n = 9 := by omega
section
variable {h : AH} {d : PD} {co e : Nat} {g : AH → Option AH} {bs : Bool → List Nat} {fl : Bool → Bool}
theorem wr_rs {i c k : Nat} (G : GPr h) (C : CoR h co d) (hi : i < 7) (he : e < 64) (hv : pR d i e = nI c) (F : Wri h g bs fl) : Wri h (fun H => (g_r H co 0 i).bind fun x => (l_i H x (nI e)).bind fun v => (ok_v H 72 4).bind fun _ => (f_X4_writeSign 72 (nI k + v) H).bind g) (fun b => (gp b ++ [k + c]) ++ bs false) (fun _ => fl false) :=
  wr_rd (f := fun v H => (ok_v H 72 4).bind fun _ => (f_X4_writeSign 72 (nI k + v) H).bind g) C (by omega) (by rw [m_len64 hi]; exact he) (by
    rw [hv]
    show Wri h (fun H => (ok_v H 72 4).bind fun _ => (f_X4_writeSign 72 (nI k + nI c) H).bind g) _ _
    rw [nI_add]
    exact wr_v G (wr_c (wr_sign G) F))
theorem wr_rn {i c k : Nat} (G : GPr h) (C : CoR h co d) (hi : i < 7) (he : e < 64) (hv : pR d i e = nI c) (F : Wri h g bs fl) : Wri h (fun H => (g_r H co 0 i).bind fun x => (l_i H x (nI e)).bind fun v => (ok_v H 72 4).bind fun _ => (f_X4_writeName 72 (nI k) v H).bind g) (fun b => (gp b ++ [k, 48 + c]) ++ bs false) (fun _ => fl false) :=
  wr_rd (f := fun v H => (ok_v H 72 4).bind fun _ => (f_X4_writeName 72 (nI k) v H).bind g) C (by omega) (by rw [m_len64 hi]; exact he) (by
    rw [hv]
    exact wr_v G (wr_c (wr_name G) F))
theorem wr_rp {i c k : Nat} (G : GPr h) (C : CoR h co d) (hi : i < 7) (he : e < 64) (hv : pR d i e = nI c) (F : Wri h g bs fl) : Wri h (fun H => (g_r H co 0 i).bind fun x => (l_i H x (nI e)).bind fun v => (ok_v H 72 4).bind fun _ => (f_X4_put 72 (nI k + v) H).bind g) (fun b => [k + c] ++ bs false) (fun _ => fl false) :=
  wr_rd (f := fun v H => (ok_v H 72 4).bind fun _ => (f_X4_put 72 (nI k + v) H).bind g) C (by omega) (by rw [m_len64 hi]; exact he) (by
    rw [hv]
    show Wri h (fun H => (ok_v H 72 4).bind fun _ => (f_X4_put 72 (nI k + nI c) H).bind g) _ _
    rw [nI_add]
    exact wr_v G (wr_c (wr_put G) F))
theorem wr_eq {f f' : AH → Option AH} (F : Wri h f bs fl) (e : ∀ H, f' H = f H) : Wri h f' bs fl := by
  have : f' = f := funext e
  rw [this]; exact F
/-- an assignment -/
theorem wr_asg {x : Ent} (G : GPr h) (C : CoR h co d) (he : e < 64) (k0 : pR d 0 e = nI (en_op x)) (k1 : pR d 1 e = en_tl x) (k2 : pR d 2 e = en_bs x) (k3 : pR d 3 e = en_dg x) (k4 : pR d 4 e = en_ob x) (AL : List Act) (ow kd : Nat → Int32) (dn : Int32) (i : Nat) (FX' : FX AL ow kd dn i x) (Z : fzb x = true) (ho : en_op x = 0 ∨ en_op x = 1 ∨ en_op x = 2 ∨ en_op x = 6) :
    Wri h (f_X4_writeAssignment 72 co (nI e)) (fun b => gp b ++ be x) (fun _ => true) := by
  have Z' := of_decide_eq_true Z
  obtain ⟨-, -, -, f4, -, f6, f7, f8, -, -⟩ := FX'
  have st : ∀ H, f_X4_writeAssignment 72 co (nI e) H = (g_r H co 0 0).bind fun y => (l_i H y (nI e)).bind fun v => if v = (1 : Int32) then b_X4_writeAssignment_19 72 co (nI e) v H else b_X4_writeAssignment_35 72 co (nI e) v H := fun H => by
    unfold f_X4_writeAssignment b_X4_writeAssignment_0
    rw [and63 he]
  refine wr_eq ?_ st
  refine wr_rd (f := fun v H => if v = (1 : Int32) then b_X4_writeAssignment_19 72 co (nI e) v H else b_X4_writeAssignment_35 72 co (nI e) v H) C (by omega) (by rw [m_len64 (by omega)]; exact he) ?_
  rw [k0]
  rcases ho with o | o | o | o
  · obtain ⟨l, l1, l2, -⟩ := f6 (Or.inl o)
    obtain ⟨c, c1, c2, -⟩ := f4 (Or.inl o)
    have zb : pR d 2 e = -1 := by rw [k2]; exact (Z'.1 o).1
    have eb : be x = [114, 48 + l, 32, 61, 32, 117 + c, 59, 10] := by
      unfold be
      rw [if_pos o, l2, c2, ix_nI (by omega), ix_nI (by omega)]
    rw [o, eb]
    refine wr_eq (f := b_X4_writeAssignment_35 72 co (nI e) (nI 0)) ?_ (fun H => if_neg (by decide))
    have w80 : Wri h (b_X4_writeAssignment_80 72 co (nI e)) (fun b => (gp b ++ [117 + c]) ++ [59, 10]) (fun _ => true) := wr_rs (k := 117) (i := 4) G C (by omega) he (k4.trans c2) (wr_163 G)
    have w47 : Wri h (b_X4_writeAssignment_47 72 co (nI e) (nI 0)) (fun b => gp b ++ [61, 32, 117 + c, 59, 10]) (fun _ => true) := by
      have : Wri h (fun H => (g_r H co 0 2).bind fun y => (l_i H y (nI e)).bind fun v => if v = (-1 : Int32) then b_X4_writeAssignment_75 72 co (nI e) (nI 0) H else b_X4_writeAssignment_63 72 co (nI e) (nI 0) H) (fun b => (gp b ++ [117 + c]) ++ [59, 10]) (fun _ => true) := by
        refine wr_rd (f := fun v H => if v = (-1 : Int32) then b_X4_writeAssignment_75 72 co (nI e) (nI 0) H else b_X4_writeAssignment_63 72 co (nI e) (nI 0) H) C (by omega) (by rw [m_len64 (by omega)]; exact he) ?_
        refine wr_eq w80 (fun H => ?_)
        rw [zb, if_pos rfl]
        unfold b_X4_writeAssignment_75
        rw [if_pos (show nI 0 = (0 : Int32) from rfl)]
      exact wr_cg (wr_v G (wr_c (wr_word (r := 16) G (by omega) (by omega)) this)) (fun b => by cases b <;> rfl) (fun b => rfl)
    exact wr_cg (wr_rn (k := 114) (i := 1) G C (by omega) he (k1.trans l2) w47) (fun b => by cases b <;> rfl) (fun b => rfl)
  · obtain ⟨c, c1, c2, -⟩ := f4 (Or.inr (Or.inl o))
    obtain ⟨b1, b2, b3⟩ := f8 (Or.inl o)
    have eb : be x = [117 + c, 32, 61] ++ bex (en_bs x) (en_dg x) ++ [59, 10] := by
      unfold be
      rw [if_neg (by omega), if_pos o, c2, ix_nI (by omega)]
    rw [o, eb]
    refine wr_eq (f := b_X4_writeAssignment_19 72 co (nI e) (nI 1)) ?_ (fun H => if_pos rfl)
    have w47 := wr_75 (op := 1) G C he k2 k3 (Or.inl rfl) (b1.imp id (fun ⟨b, y1, y2, _⟩ => ⟨b, y1, y2⟩)) b2 b3
    refine wr_cg (wr_rs (k := 117) (i := 4) G C (by omega) he (k4.trans c2) w47) (fun b => ?_) (fun b => rfl)
    show (gp b ++ [117 + c]) ++ ([32] ++ [61] ++ bex (en_bs x) (en_dg x) ++ [59, 10]) = gp b ++ ([117 + c, 32, 61] ++ bex (en_bs x) (en_dg x) ++ [59, 10])
    rw [List.append_assoc]
    rfl
  · obtain ⟨l, l1, l2, -⟩ := f6 (Or.inr (Or.inl o))
    obtain ⟨c, c1, c2, -⟩ := f4 (Or.inr (Or.inr o))
    obtain ⟨b', b1, b2, -⟩ := f7 o
    have zb : ¬ pR d 2 e = -1 := by rw [k2, b2]; exact nI_ne1 (by omega)
    have eb : be x = [114, 48 + l, 32, 61, 32, 114, 48 + b', 46, 117 + c, 59, 10] := by
      unfold be
      rw [if_neg (by omega), if_neg (by omega), if_pos o, l2, c2, b2, ix_nI (by omega), ix_nI (by omega), ix_nI (by omega)]
    rw [o, eb]
    refine wr_eq (f := b_X4_writeAssignment_35 72 co (nI e) (nI 2)) ?_ (fun H => if_neg (by decide))
    have w102 : Wri h (b_X4_writeAssignment_102 72 co (nI e)) (fun b => [46, 117 + c, 59, 10]) (fun _ => true) := wr_cg (wr_v G (wr_c (wr_put (c := 46) G) (wr_rp (k := 117) (i := 4) G C (by omega) he (k4.trans c2) (wr_163 G)))) (fun b => rfl) (fun b => rfl)
    have w75 : Wri h (b_X4_writeAssignment_75 72 co (nI e) (nI 2)) (fun b => [46, 117 + c, 59, 10]) (fun _ => true) := wr_eq w102 (fun H => by
      unfold b_X4_writeAssignment_75 b_X4_writeAssignment_96
      rw [if_neg (by decide), if_pos (show nI 2 = (2 : Int32) from rfl)])
    have w63 : Wri h (b_X4_writeAssignment_63 72 co (nI e) (nI 2)) (fun b => (gp b ++ [114, 48 + b']) ++ [46, 117 + c, 59, 10]) (fun _ => true) := wr_rn (k := 114) (i := 2) G C (by omega) he (k2.trans b2) w75
    have w47 : Wri h (b_X4_writeAssignment_47 72 co (nI e) (nI 2)) (fun b => gp b ++ [61, 32, 114, 48 + b', 46, 117 + c, 59, 10]) (fun _ => true) := by
      have : Wri h (fun H => (g_r H co 0 2).bind fun y => (l_i H y (nI e)).bind fun v => if v = (-1 : Int32) then b_X4_writeAssignment_75 72 co (nI e) (nI 2) H else b_X4_writeAssignment_63 72 co (nI e) (nI 2) H) (fun b => (gp b ++ [114, 48 + b']) ++ [46, 117 + c, 59, 10]) (fun _ => true) := by
        refine wr_rd (f := fun v H => if v = (-1 : Int32) then b_X4_writeAssignment_75 72 co (nI e) (nI 2) H else b_X4_writeAssignment_63 72 co (nI e) (nI 2) H) C (by omega) (by rw [m_len64 (by omega)]; exact he) ?_
        exact wr_eq w63 (fun H => if_neg zb)
      exact wr_cg (wr_v G (wr_c (wr_word (r := 16) G (by omega) (by omega)) this)) (fun b => by cases b <;> rfl) (fun b => rfl)
    exact wr_cg (wr_rn (k := 114) (i := 1) G C (by omega) he (k1.trans l2) w47) (fun b => by cases b <;> rfl) (fun b => rfl)
  · obtain ⟨l, l1, l2, -⟩ := f6 (Or.inr (Or.inr (Or.inl o)))
    obtain ⟨b1, b2, b3⟩ := f8 (Or.inr o)
    have eb : be x = [114, 48 + l, 32, 61] ++ bex (en_bs x) (en_dg x) ++ [59, 10] := by
      unfold be
      rw [if_neg (by omega), if_neg (by omega), if_neg (by omega), if_neg (by omega), if_neg (by omega), if_neg (by omega), if_pos o, l2, ix_nI (by omega)]
    rw [o, eb]
    refine wr_eq (f := b_X4_writeAssignment_35 72 co (nI e) (nI 6)) ?_ (fun H => if_neg (by decide))
    have w47 := wr_75 (op := 6) G C he k2 k3 (Or.inr rfl) (b1.imp id (fun ⟨b, y1, y2, _⟩ => ⟨b, y1, y2⟩)) b2 b3
    refine wr_cg (wr_rn (k := 114) (i := 1) G C (by omega) he (k1.trans l2) w47) (fun b => ?_) (fun b => rfl)
    show (gp b ++ [114, 48 + l]) ++ ([32] ++ [61] ++ bex (en_bs x) (en_dg x) ++ [59, 10]) = gp b ++ ([114, 48 + l, 32, 61] ++ bex (en_bs x) (en_dg x) ++ [59, 10])
    rw [List.append_assoc]
    rfl
/-- an entry -/
theorem wr_ent {x : Ent} (G : GPr h) (C : CoR h co d) (he : e < 64) (k0 : pR d 0 e = nI (en_op x)) (k1 : pR d 1 e = en_tl x) (k2 : pR d 2 e = en_bs x) (k3 : pR d 3 e = en_dg x) (k4 : pR d 4 e = en_ob x) (AL : List Act) (ow kd : Nat → Int32) (dn : Int32) (i : Nat) (FX' : FX AL ow kd dn i x) (Z : fzb x = true) (ho : en_op x ≠ 10) :
    Wri h (f_X4_writeEntry 72 co (nI e)) (fun b => gp b ++ be x) (fun _ => true) := by
  have FX0 := FX'
  obtain ⟨f1, -, -, -, f5, f6, -, -, f9, -⟩ := FX'
  have st : ∀ H, f_X4_writeEntry 72 co (nI e) H = (g_r H co 0 0).bind fun y => (l_i H y (nI e)).bind fun v => if v = 3 then b_X4_writeEntry_52 72 co (nI e) H else if v = 4 then b_X4_writeEntry_52 72 co (nI e) H else if v = 5 then b_X4_writeEntry_92 72 H else if v = 6 then b_X4_writeEntry_181 72 co (nI e) H else if v = 7 then b_X4_writeEntry_105 72 co (nI e) H else if v = 8 then b_X4_writeEntry_155 72 H else if v = 9 then b_X4_writeEntry_168 72 H else b_X4_writeEntry_181 72 co (nI e) H := fun H => by
    unfold f_X4_writeEntry b_X4_writeEntry_0
    rw [and63 he]
  refine wr_eq ?_ st
  refine wr_rd (f := fun v H => if v = 3 then b_X4_writeEntry_52 72 co (nI e) H else if v = 4 then b_X4_writeEntry_52 72 co (nI e) H else if v = 5 then b_X4_writeEntry_92 72 H else if v = 6 then b_X4_writeEntry_181 72 co (nI e) H else if v = 7 then b_X4_writeEntry_105 72 co (nI e) H else if v = 8 then b_X4_writeEntry_155 72 H else if v = 9 then b_X4_writeEntry_168 72 H else b_X4_writeEntry_181 72 co (nI e) H) C (by omega) (by rw [m_len64 (by omega)]; exact he) ?_
  rw [k0]
  have asg : (en_op x = 0 ∨ en_op x = 1 ∨ en_op x = 2 ∨ en_op x = 6) → Wri h (b_X4_writeEntry_181 72 co (nI e)) (fun b => gp b ++ be x) (fun _ => true) := fun o => wr_cg (wr_v G (wr_c (wr_asg G C he k0 k1 k2 k3 k4 AL ow kd dn i FX0 Z o) wr_id)) (fun b => List.append_nil _) (fun b => rfl)
  have mon : ∀ (r m : Nat), 1 ≤ r → r < 18 → pR d 4 e = nI m → Wri h (b_X4_writeEntry_70 72 co (nI e) 72 r) (fun b => gp b ++ (wbt r ++ [32, 109, 48 + m, 59, 10])) (fun _ => true) := fun r m h1 h2 hv => by
    refine wr_cg (wr_v G (wr_c (wr_word (r := r) G h1 h2) (wr_rn (k := 109) (i := 4) G C (by omega) he hv (wr_v G (wr_c (wr_es G) wr_id))))) (fun b => ?_) (fun b => rfl)
    rw [List.append_assoc]
    rfl
  have o10 : en_op x = 0 ∨ en_op x = 1 ∨ en_op x = 2 ∨ en_op x = 3 ∨ en_op x = 4 ∨ en_op x = 5 ∨ en_op x = 6 ∨ en_op x = 7 ∨ en_op x = 8 ∨ en_op x = 9 := op10 f1 ho
  rcases o10 with o | o | o | o | o | o | o | o | o | o
  · refine wr_eq (asg (Or.inl o)) (fun H => ?_)
    rw [o, if_neg (by decide), if_neg (by decide), if_neg (by decide), if_neg (by decide), if_neg (by decide), if_neg (by decide), if_neg (by decide)]
  · refine wr_eq (asg (Or.inr (Or.inl o))) (fun H => ?_)
    rw [o, if_neg (by decide), if_neg (by decide), if_neg (by decide), if_neg (by decide), if_neg (by decide), if_neg (by decide), if_neg (by decide)]
  · refine wr_eq (asg (Or.inr (Or.inr (Or.inl o)))) (fun H => ?_)
    rw [o, if_neg (by decide), if_neg (by decide), if_neg (by decide), if_neg (by decide), if_neg (by decide), if_neg (by decide), if_neg (by decide)]
  · obtain ⟨m, m1, m2⟩ := f5 (Or.inl o)
    have eb : be x = wbt 6 ++ [32, 109, 48 + m, 59, 10] := by
      unfold be
      rw [if_neg (by omega), if_neg (by omega), if_neg (by omega), if_pos o, m2, ix_nI (by omega)]
    rw [eb, o]
    refine wr_eq (f := b_X4_writeEntry_52 72 co (nI e)) ?_ (fun H => if_pos (by decide))
    refine wr_rd (f := fun v H => if v = (3 : Int32) then b_X4_writeEntry_63 72 co (nI e) 72 H else b_X4_writeEntry_68 72 co (nI e) 72 H) C (by omega) (by rw [m_len64 (by omega)]; exact he) ?_
    exact wr_eq (mon 6 m (by omega) (by omega) (k4.trans m2)) (fun H => by rw [k0, o]; exact if_pos (by decide))
  · obtain ⟨m, m1, m2⟩ := f5 (Or.inr o)
    have eb : be x = wbt 7 ++ [32, 109, 48 + m, 59, 10] := by
      unfold be
      rw [if_neg (by omega), if_neg (by omega), if_neg (by omega), if_neg (by omega), if_pos o, m2, ix_nI (by omega)]
    rw [eb, o]
    refine wr_eq (f := b_X4_writeEntry_52 72 co (nI e)) ?_ (fun H => (if_neg (by decide)).trans (if_pos (by decide)))
    refine wr_rd (f := fun v H => if v = (3 : Int32) then b_X4_writeEntry_63 72 co (nI e) 72 H else b_X4_writeEntry_68 72 co (nI e) 72 H) C (by omega) (by rw [m_len64 (by omega)]; exact he) ?_
    exact wr_eq (mon 7 m (by omega) (by omega) (k4.trans m2)) (fun H => by rw [k0, o]; exact if_neg (by decide))
  · have eb : be x = wbt 8 ++ [59, 10] := by
      unfold be
      rw [if_neg (by omega), if_neg (by omega), if_neg (by omega), if_neg (by omega), if_neg (by omega), if_pos o]
    rw [eb, o]
    refine wr_eq (f := b_X4_writeEntry_92 72) ?_ (fun H => by rw [if_neg (by decide), if_neg (by decide), if_pos (by decide)])
    exact wr_cg (wr_v G (wr_c (wr_word (r := 8) G (by omega) (by omega)) (wr_v G (wr_c (wr_es G) wr_id)))) (fun b => by rw [List.append_assoc]; rfl) (fun b => rfl)
  · refine wr_eq (asg (Or.inr (Or.inr (Or.inr o)))) (fun H => ?_)
    rw [o, if_neg (by decide), if_neg (by decide), if_neg (by decide), if_pos (by decide)]
  · obtain ⟨l, l1, l2, -⟩ := f6 (Or.inr (Or.inr (Or.inr o)))
    obtain ⟨k, n1, n2⟩ := f9 o
    have eb : be x = wbt 12 ++ [32, 114, 48 + l, 32, 61, 61, 32, 48 + k, 32, 123, 10] := by
      unfold be
      rw [if_neg (by omega), if_neg (by omega), if_neg (by omega), if_neg (by omega), if_neg (by omega), if_neg (by omega), if_neg (by omega), if_pos o, l2, n2, ix_nI (by omega), ix_nI (by omega)]
    rw [eb, o]
    refine wr_eq (f := b_X4_writeEntry_105 72 co (nI e)) ?_ (fun H => by rw [if_neg (by decide), if_neg (by decide), if_neg (by decide), if_neg (by decide), if_pos (by decide)])
    exact wr_cg (wr_v G (wr_c (wr_word (r := 12) G (by omega) (by omega)) (wr_rn (k := 114) (i := 1) G C (by omega) he (k1.trans l2) (wr_v G (wr_c (wr_word (r := 13) G (by omega) (by omega)) (wr_rs (k := 48) (i := 3) G C (by omega) he (k3.trans n2) (wr_v G (wr_c (wr_word (r := 11) G (by omega) (by omega)) (wr_v G (wr_c (wr_el G) wr_id)))))))))) (fun b => by rw [List.append_assoc]; rfl) (fun b => rfl)
  · have eb : be x = wbt 14 ++ [10] := by
      unfold be
      rw [if_neg (by omega), if_neg (by omega), if_neg (by omega), if_neg (by omega), if_neg (by omega), if_neg (by omega), if_neg (by omega), if_neg (by omega), if_pos o]
    rw [eb, o]
    refine wr_eq (f := b_X4_writeEntry_155 72) ?_ (fun H => by rw [if_neg (by decide), if_neg (by decide), if_neg (by decide), if_neg (by decide), if_neg (by decide), if_pos (by decide)])
    exact wr_cg (wr_v G (wr_c (wr_word (r := 14) G (by omega) (by omega)) (wr_v G (wr_c (wr_el G) wr_id)))) (fun b => by rw [List.append_assoc]; rfl) (fun b => rfl)
  · have eb : be x = [125, 10] := by
      unfold be
      rw [if_neg (by omega), if_neg (by omega), if_neg (by omega), if_neg (by omega), if_neg (by omega), if_neg (by omega), if_neg (by omega), if_neg (by omega), if_neg (by omega)]
    rw [eb, o]
    refine wr_eq (f := b_X4_writeEntry_168 72) ?_ (fun H => by rw [if_neg (by decide), if_neg (by decide), if_neg (by decide), if_neg (by decide), if_neg (by decide), if_neg (by decide), if_pos (by decide)])
    exact wr_cg (wr_v G (wr_c (wr_word (r := 15) G (by omega) (by omega)) (wr_v G (wr_c (wr_el G) wr_id)))) (fun b => by rw [List.append_assoc]; rfl) (fun b => rfl)
/-- a thread's entries from e on -/
def btE (E : List Ent) (a n : Nat) : List Nat := (List.range n).flatMap (fun i => be (E.getD (a + i) dE))
theorem bt_s {E : List Ent} {a n : Nat} : btE E a (n + 1) = be (E.getD a dE) ++ btE E (a + 1) n := by
  unfold btE
  rw [List.range_succ_eq_map, List.flatMap_cons, List.flatMap_map]
  congr 1
  refine fm_c _ (fun i _ => ?_)
  show be (E.getD (a + (i + 1)) dE) = be (E.getD (a + 1 + i) dE)
  rw [show a + (i + 1) = a + 1 + i by omega]
theorem bt_l {E : List Ent} : ∀ n a, (btE E a n).length ≤ 13 * n := by
  intro n
  induction n with
  | zero => intro a; show 0 ≤ _; omega
  | succ n ih =>
    intro a
    rw [bt_s, List.length_append]
    have := be_l (x := E.getD a dE)
    have := ih (a + 1)
    omega
theorem wr_thr {z : Nat} (G : GPr h) (C : CoR h co d) (P : PDk d) (hz : z < (pE d).length) (oz : en_op ((pE d).getD z dE) = 10) : ∀ j fu, j ≤ z → j < fu → (∀ i, z - j ≤ i → i < z → en_op ((pE d).getD i dE) ≠ 10) → Wri h (l_X4_writeThread_22 fu 72 co (nI (z - j))) (fun b => gp b ++ btE (pE d) (z - j) (j + 1)) (fun _ => true) := by
  have b64 := P.1.2.2.1.1
  obtain ⟨⟨kk10, -⟩, he, -⟩ := P.2.1
  have g10 : ∀ A W b, PS (hp_i h) A W b → g_i (sA h A) co 0 10 = some (nI (pE d).length) := fun A W b S => by
    rw [q_i C.1, S.2.2.2 _ _ (by have := C.2.2.2; omega) (by have := C.2.2.2; omega), C.2.2.1, kk10]
  intro j
  induction j with
  | zero =>
    intro fu _ hf _
    obtain ⟨fu, rfl⟩ : ∃ f', fu = f' + 1 := ⟨fu - 1, by omega⟩
    have w62 : Wri h (b_X4_writeThread_62 72) (fun b => gp b ++ [125, 10]) (fun _ => true) := wr_cg (wr_v G (wr_c (wr_word (r := 15) G (by omega) (by omega)) (wr_v G (wr_c (wr_el G) wr_id)))) (fun b => by rw [List.append_assoc]; rfl) (fun b => rfl)
    have w36 : Wri h (b_X4_writeThread_36 (l_X4_writeThread_22 fu) 72 co (nI z)) (fun b => gp b ++ [125, 10]) (fun _ => true) := by
      refine wr_rd (f := fun v H => if v = (10 : Int32) then b_X4_writeThread_47 72 H else b_X4_writeThread_50 (l_X4_writeThread_22 fu) 72 co (nI z) H) C (by omega) (by rw [m_len64 (by omega)]; omega) ?_
      exact wr_eq w62 (fun H => by rw [(he z hz).1, oz]; exact if_pos (by decide))
    have eb : btE (pE d) z (0 + 1) = [125, 10] := by
      rw [bt_s]
      unfold be
      rw [if_neg (by omega), if_neg (by omega), if_neg (by omega), if_neg (by omega), if_neg (by omega), if_neg (by omega), if_neg (by omega), if_neg (by omega), if_neg (by omega)]
      rfl
    intro A W b S hl
    rw [Nat.sub_zero, eb] at *
    obtain ⟨A1, x1, x2⟩ := w36 A W b S hl
    refine ⟨A1, ?_, x2⟩
    show b_X4_writeThread_22 (l_X4_writeThread_22 fu) 72 co (nI z) (sA h A) = _
    unfold b_X4_writeThread_22
    rw [g10 A W b S, Option.bind_some, if_neg (nI_ge hz (by omega))]
    unfold b_X4_writeThread_30
    rw [if_neg (show ¬ (64 : Int32) ≤ nI z from nI_ge (b := 64) (by omega) (by omega))]
    exact x1
  | succ j ih =>
    intro fu hj hf hno
    obtain ⟨fu, rfl⟩ : ∃ f', fu = f' + 1 := ⟨fu - 1, by omega⟩
    have ej : z - j = z - (j + 1) + 1 := by omega
    have ih' := ih fu (by omega) (by omega) (fun i h1 h2 => hno i (by omega) h2)
    rw [ej] at ih'
    generalize hi : z - (j + 1) = i at *
    have hin : i < (pE d).length := by omega
    obtain ⟨k0, k1, k2, k3, k4, -, -⟩ := he i hin
    have n10' := hno i (Nat.le_refl _) (by omega)
    have fx := (P.1.1.1 i hin).2
    have ent := wr_ent (x := (pE d).getD i dE) G C (show i < 64 by omega) k0 k1 k2 k3 k4 _ _ _ _ _ fx (nst_fz P.1.2.2.2.2.2.1 hin) n10'
    have w50 : Wri h (b_X4_writeThread_50 (l_X4_writeThread_22 fu) 72 co (nI i)) (fun b => gp b ++ btE (pE d) i (j + 1 + 1)) (fun _ => true) := by
      refine wr_eq (wr_cg (wr_v G (wr_c ent ih')) (fun b => ?_) (fun b => rfl)) (fun H => ?_)
      · rw [show btE (pE d) i (j + 1 + 1) = _ from bt_s, List.append_assoc]; rfl
      · unfold b_X4_writeThread_50
        rw [da]
    have w36 : Wri h (b_X4_writeThread_36 (l_X4_writeThread_22 fu) 72 co (nI i)) (fun b => gp b ++ btE (pE d) i (j + 1 + 1)) (fun _ => true) := by
      refine wr_rd (f := fun v H => if v = (10 : Int32) then b_X4_writeThread_47 72 H else b_X4_writeThread_50 (l_X4_writeThread_22 fu) 72 co (nI i) H) C (by omega) (by rw [m_len64 (by omega)]; omega) ?_
      exact wr_eq w50 (fun H => if_neg (fun w => n10' ((nI_eq (b := 10) (by have := fx.1; omega) (by omega)).mp (k0.symm.trans w))))
    intro A W b S hl
    obtain ⟨A1, x1, x2⟩ := w36 A W b S hl
    refine ⟨A1, ?_, x2⟩
    show b_X4_writeThread_22 (l_X4_writeThread_22 fu) 72 co (nI i) (sA h A) = _
    unfold b_X4_writeThread_22
    rw [g10 A W b S, Option.bind_some, if_neg (nI_ge hin (by omega))]
    unfold b_X4_writeThread_30
    rw [if_neg (show ¬ (64 : Int32) ≤ nI i from nI_ge (b := 64) (by omega) (by omega))]
    exact x1
end
