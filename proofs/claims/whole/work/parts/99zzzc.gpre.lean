/-! ===== print: the whole text ===== -/
def thr9 : List Nat := wbt 5 ++ [32, 123, 10]
/-- a declaration -/
def dcL (kd : Nat → Int32) (k n : Nat) : List Nat := (List.range n).flatMap (fun i => if kd (6 - n + i) = nI k then [32, 117 + (6 - n + i)] else [])
def dca (kd : Nat → Int32) (k : Nat) : Bool := (List.range 6).all (fun c => decide (¬ kd c = nI k))
theorem dca_i {kd : Nat → Int32} {k : Nat} : dca kd k = true ↔ ∀ c, c < 6 → ¬ kd c = nI k := by
  unfold dca
  rw [List.all_eq_true]
  exact ⟨fun z c hc => of_decide_eq_true (z c (List.mem_range.mpr hc)), fun z c hc => decide_eq_true (z c (List.mem_range.mp hc))⟩
def dcb (kd : Nat → Int32) (k : Nat) : List Nat := if dca kd k = true then [] else wbt (k + 2) ++ dcL kd k 6 ++ [59, 10]
theorem dcL_s {kd : Nat → Int32} {k n : Nat} (hn : n < 6) : dcL kd k (n + 1) = (if kd (6 - (n + 1)) = nI k then [32, 117 + (6 - (n + 1))] else []) ++ dcL kd k n := by
  unfold dcL
  rw [List.range_succ_eq_map, List.flatMap_cons, List.flatMap_map]
  congr 1
  refine fm_c _ (fun i _ => ?_)
  show (if kd (6 - (n + 1) + (i + 1)) = nI k then [32, 117 + (6 - (n + 1) + (i + 1))] else []) = _
  rw [show 6 - (n + 1) + (i + 1) = 6 - n + i by omega]
theorem dcL_l {kd : Nat → Int32} {k : Nat} : ∀ n, n ≤ 6 → (dcL kd k n).length ≤ 2 * n := by
  intro n
  induction n with
  | zero => intro _; show 0 ≤ _; omega
  | succ n ih =>
    intro hn
    rw [dcL_s (by omega), List.length_append]
    have := ih (by omega)
    split
    · show 2 + _ ≤ _; omega
    · show 0 + _ ≤ _; omega
theorem dcb_l {kd : Nat → Int32} {k : Nat} (hk : k < 3) : (dcb kd k).length ≤ 22 := by
  unfold dcb
  by_cases c : ∀ c, c < 6 → ¬ kd c = nI k
  · rw [if_pos (dca_i.mpr c)]; show 0 ≤ _; omega
  · rw [if_neg (fun z => c (dca_i.mp z)), List.length_append, List.length_append]
    have := dcL_l (kd := kd) (k := k) 6 (Nat.le_refl _)
    have w : ∀ k, k < 3 → (wbt (k + 2)).length ≤ 8 := by decide
    have := w k hk
    show _ + _ + 2 ≤ _
    omega
/-- the threads from e on, in the order of the entries -/
def bfE (SL : List Nat) (E : List Ent) (e : Nat) : List Nat := (if e ∈ SL then thr9 else []) ++ be (E.getD e dE)
def bdy (SL : List Nat) (E : List Ent) (n : Nat) : List Nat := (List.range n).flatMap (bfE SL E)
def pbt (d : PD) : List Nat := dcb (pK d) 0 ++ dcb (pK d) 1 ++ dcb (pK d) 2 ++ bdy (pS d) (pE d) (pE d).length
section
variable {h : AH} {d : PD} {co pr : Nat}
theorem wr_loopD {w k : Nat} (G : GPr h) (hw : w < 64) (kd : Nat → Int32) (w3 : ∀ c, c < 6 → (w.testBit c = true ↔ kd c = nI k)) : ∀ j fu, j ≤ 6 → j < fu → Wri h (l_X4_writeDeclaration_12 fu 72 (nI w) (nI (6 - j))) (fun b => (if b = true ∧ dcL kd k j ≠ [] then (dcL kd k j).tail else dcL kd k j) ++ [59, 10]) (fun _ => true) := by
  intro j
  induction j with
  | zero =>
    intro fu _ hf
    obtain ⟨fu, rfl⟩ : ∃ f', fu = f' + 1 := ⟨fu - 1, by omega⟩
    refine wr_eq (f := b_X4_writeDeclaration_40 72) ?_ (fun H => ?_)
    · refine wr_cg (wr_v G (wr_c (wr_es G) wr_id)) (fun b => ?_) (fun b => rfl)
      rw [if_neg (fun z => z.2 rfl)]; rfl
    · show b_X4_writeDeclaration_12 (l_X4_writeDeclaration_12 fu) 72 (nI w) (nI 6) H = _
      unfold b_X4_writeDeclaration_12
      rw [if_pos (show (6 : Int32) ≤ nI 6 by decide)]
  | succ j ih =>
    intro fu hj hf
    obtain ⟨fu, rfl⟩ : ∃ f', fu = f' + 1 := ⟨fu - 1, by omega⟩
    have ih' := ih fu (by omega) (by omega)
    have ej : 6 - j = 6 - (j + 1) + 1 := by omega
    rw [ej] at ih'
    have ds := dcL_s (kd := kd) (k := k) (n := j) (by omega)
    generalize hi : 6 - (j + 1) = i at *
    have t := bt6 w hw i (by omega)
    by_cases c : kd i = nI k
    · rw [if_pos c] at ds
      have hb : w.testBit i = true := (w3 i (by omega)).mpr c
      have w26 : Wri h (b_X4_writeDeclaration_26 (l_X4_writeDeclaration_12 fu) 72 (nI w) (nI i)) (fun b => (gp b ++ [117 + i]) ++ (dcL kd k j ++ [59, 10])) (fun _ => true) := by
        have e1 : Wri h (b_X4_writeDeclaration_34 (l_X4_writeDeclaration_12 fu) 72 (nI w) (nI i)) (fun b => (if b = true ∧ dcL kd k j ≠ [] then (dcL kd k j).tail else dcL kd k j) ++ [59, 10]) (fun _ => true) := wr_eq ih' (fun H => by
          unfold b_X4_writeDeclaration_34
          rw [da])
        have : Wri h (fun H => (ok_v H 72 4).bind fun _ => (f_X4_writeSign 72 ((117 : Int32) + nI i) H).bind fun h2 => b_X4_writeDeclaration_34 (l_X4_writeDeclaration_12 fu) 72 (nI w) (nI i) h2) (fun b => (gp b ++ [117 + i]) ++ (dcL kd k j ++ [59, 10])) (fun _ => true) := by
          rw [ad]
          refine wr_cg (wr_v G (wr_c (wr_sign (c := 117 + i) G) e1)) (fun b => ?_) (fun b => rfl)
          show (gp b ++ [117 + i]) ++ ((if false = true ∧ _ then _ else dcL kd k j) ++ [59, 10]) = _
          rw [if_neg (fun z => Bool.false_ne_true z.1)]
        exact this
      refine wr_eq (wr_cg w26 (fun b => ?_) (fun b => rfl)) (fun H => ?_)
      · rw [ds]
        cases b
        · rw [if_neg (fun z => Bool.false_ne_true z.1)]; rfl
        · rw [if_pos ⟨rfl, fun z => by cases z⟩]; rfl
      · show b_X4_writeDeclaration_12 (l_X4_writeDeclaration_12 fu) 72 (nI w) (nI i) H = _
        unfold b_X4_writeDeclaration_12
        rw [if_neg (show ¬ (6 : Int32) ≤ nI i from nI_ge (b := 6) (by omega) (by omega))]
        unfold b_X4_writeDeclaration_18
        rw [if_neg (fun z => by have := t.2.mp z; rw [hb] at this; cases this)]
    · rw [if_neg c] at ds
      have hb : w.testBit i = false := by
        cases q : w.testBit i
        · rfl
        · exact absurd ((w3 i (by omega)).mp q) c
      refine wr_eq (wr_cg ih' (fun b => by rw [ds]; rfl) (fun b => rfl)) (fun H => ?_)
      show b_X4_writeDeclaration_12 (l_X4_writeDeclaration_12 fu) 72 (nI w) (nI i) H = _
      unfold b_X4_writeDeclaration_12
      rw [if_neg (show ¬ (6 : Int32) ≤ nI i from nI_ge (b := 6) (by omega) (by omega))]
      unfold b_X4_writeDeclaration_18
      rw [if_pos (t.2.mpr hb)]
      unfold b_X4_writeDeclaration_34
      rw [da]
theorem wr_dcl {w k : Nat} (G : GPr h) (hw : w < 64) (hk : k < 3) (kd : Nat → Int32) (w3 : ∀ c, c < 6 → (w.testBit c = true ↔ kd c = nI k)) (A : Nat → Nat → Int32) (W : List Nat) (S : PS (hp_i h) A W true) (hl : (W ++ dcb kd k).length ≤ 1000) : ∃ A', f_X4_writeDeclaration 72 (k + 2) (nI w) (sA h A) = some (sA h A') ∧ PS (hp_i h) A' (W ++ dcb kd k) true := by
  unfold dcb at *
  by_cases c : ∀ c, c < 6 → ¬ kd c = nI k
  · rw [if_pos (dca_i.mpr c)] at *
    have w0 : w = 0 := tb6_ext hw (by omega) (fun i hi => ⟨fun y => absurd ((w3 i hi).mp y) (c i hi), fun y => by rw [Nat.zero_testBit] at y; cases y⟩)
    refine ⟨A, ?_, by rw [List.append_nil]; exact S⟩
    unfold f_X4_writeDeclaration b_X4_writeDeclaration_0
    rw [if_pos (show nI w = 0 by rw [w0]; rfl)]; rfl
  · rw [if_neg (fun z => c (dca_i.mp z))] at *
    have w0 : ¬ nI w = 0 := fun z => c (fun i hi y => by
      have z0 : w = 0 := (nI_eq (b := 0) (by omega) (by omega)).mp z
      have := (w3 i hi).mpr y
      rw [z0, Nat.zero_testBit] at this
      cases this)
    have loop := wr_loopD (k := k) G hw kd w3 6 fu_ (Nat.le_refl _) (by unfold fu_; omega)
    have tot : Wri h (b_X4_writeDeclaration_5 72 (k + 2) (nI w)) (fun b => (gp b ++ wbt (k + 2)) ++ (dcL kd k 6 ++ [59, 10])) (fun _ => true) := by
      refine wr_cg (wr_v G (wr_c (wr_word (r := k + 2) G (by omega) (by omega)) loop)) (fun b => ?_) (fun b => rfl)
      show (gp b ++ wbt (k + 2)) ++ ((if false = true ∧ _ then _ else dcL kd k 6) ++ [59, 10]) = _
      rw [if_neg (fun z => Bool.false_ne_true z.1)]
    have eq : (gp true ++ wbt (k + 2)) ++ (dcL kd k 6 ++ [59, 10]) = wbt (k + 2) ++ dcL kd k 6 ++ [59, 10] := by
      rw [← List.append_assoc]; rfl
    obtain ⟨A1, x1, x2⟩ := tot A W true S (by show (W ++ ((gp true ++ wbt (k + 2)) ++ (dcL kd k 6 ++ [59, 10]))).length ≤ 1000; rw [eq]; exact hl)
    refine ⟨A1, ?_, ?_⟩
    · unfold f_X4_writeDeclaration b_X4_writeDeclaration_0
      rw [if_neg w0]
      exact x1
    · have x2 : PS (hp_i h) A1 (W ++ ((gp true ++ wbt (k + 2)) ++ (dcL kd k 6 ++ [59, 10]))) true := x2
      rw [eq] at x2
      exact x2
theorem bdy_s {SL : List Nat} {E : List Ent} {n : Nat} : bdy SL E (n + 1) = bdy SL E n ++ bfE SL E n := by
  unfold bdy
  rw [List.range_succ, List.flatMap_append, List.flatMap_cons, List.flatMap_nil, List.append_nil]
theorem tn_mono {SL : List Nat} {E : List Ent} (T : TN E SL) : ∀ j i, i < j → j < SL.length → SL.getD i 0 < SL.getD j 0 := by
  intro j
  induction j with
  | zero => intro i h1; omega
  | succ j ih =>
    intro i h1 h2
    obtain ⟨z, z1, -, -, -, z5, -⟩ := T.2.2 j (by omega)
    rw [z5 h2]
    by_cases e : i = j
    · rw [e]; omega
    · have := ih i (by omega) (by omega)
      omega
theorem tn_in {SL : List Nat} {E : List Ent} {t z e : Nat} (T : TN E SL) (ht : t < SL.length) (h1 : SL.getD t 0 < e) (h2 : t + 1 < SL.length → e < SL.getD (t + 1) 0) : ¬ e ∈ SL := fun hm => by
  obtain ⟨i, i1, i2⟩ := List.mem_iff_getElem.mp hm
  have gi : SL.getD i 0 = e := by rw [List.getD_eq_getElem?_getD, List.getElem?_eq_getElem i1, ← i2]; rfl
  by_cases c : i ≤ t
  · by_cases c' : i = t
    · rw [c'] at gi; omega
    · have := tn_mono T t i (by omega) ht
      omega
  · by_cases c' : i = t + 1
    · rw [c'] at gi i1
      have := h2 i1
      omega
    · have l1 : t + 1 < SL.length := by omega
      have := h2 l1
      have := tn_mono T i (t + 1) (by omega) i1
      omega
/-- a thread's text is what the entries say -/
theorem bdy_t {SL : List Nat} {E : List Ent} {t z : Nat} (T : TN E SL) (ht : t < SL.length) (hz1 : SL.getD t 0 ≤ z) (hz : t + 1 < SL.length → SL.getD (t + 1) 0 = z + 1) : bdy SL E (z + 1) = bdy SL E (SL.getD t 0) ++ (thr9 ++ btE E (SL.getD t 0) (z - SL.getD t 0 + 1)) := by
  have hin : SL.getD t 0 ∈ SL := by
    rw [List.getD_eq_getElem?_getD, List.getElem?_eq_getElem ht]
    exact List.getElem_mem _
  have key : ∀ n, SL.getD t 0 + n ≤ z → bdy SL E (SL.getD t 0 + n + 1) = bdy SL E (SL.getD t 0) ++ (thr9 ++ btE E (SL.getD t 0) (n + 1)) := by
    intro n
    induction n with
    | zero =>
      intro _
      rw [Nat.add_zero, bdy_s]
      unfold bfE
      rw [if_pos hin, bt_s]
      show _ ++ (thr9 ++ _) = _ ++ (thr9 ++ (be (E.getD (SL.getD t 0) dE) ++ []))
      rw [List.append_nil]
    | succ n ih =>
      intro hn
      rw [bdy_s, show SL.getD t 0 + (n + 1) = SL.getD t 0 + n + 1 by omega, ih (by omega)]
      unfold bfE
      rw [if_neg (tn_in T (z := z) ht (by omega) (fun l => by rw [hz l]; omega)), List.nil_append, List.append_assoc, List.append_assoc]
      congr 2
      unfold btE
      rw [List.range_succ (n := n + 1), List.flatMap_append, List.flatMap_cons, List.flatMap_nil, List.append_nil]
      rfl
  have := key (z - SL.getD t 0) (by omega)
  rw [show SL.getD t 0 + (z - SL.getD t 0) + 1 = z + 1 by omega] at this
  exact this
theorem wr_thd {t z : Nat} (G : GPr h) (C : CoR h co d) (P : PDk d) (ht : t < (pS d).length) (hz1 : (pS d).getD t 0 ≤ z) (hz : z < (pE d).length) (oz : en_op ((pE d).getD z dE) = 10) (on : ∀ e, (pS d).getD t 0 ≤ e → e < z → en_op ((pE d).getD e dE) ≠ 10) : Wri h (f_X4_writeThread 72 co (nI ((pS d).getD t 0))) (fun b => gp b ++ (thr9 ++ btE (pE d) ((pS d).getD t 0) (z - (pS d).getD t 0 + 1))) (fun _ => true) := by
  have loop := wr_thr G C P hz oz (z - (pS d).getD t 0) fu_ (by omega) (by have := P.1.2.2.1.1; unfold fu_; omega) (fun i h1 h2 => on i (by omega) h2)
  rw [show z - (z - (pS d).getD t 0) = (pS d).getD t 0 by omega] at loop
  have mx : mx_i (nI ((pS d).getD t 0)) (0 : Int32) = nI ((pS d).getD t 0) := by
    unfold mx_i
    rw [if_neg (nI_pos (by have := P.1.2.2.1.1; omega))]
  refine wr_eq (wr_cg (wr_v G (wr_c (wr_word (r := 5) G (by omega) (by omega)) (wr_v G (wr_c (wr_word (r := 11) G (by omega) (by omega)) (wr_v G (wr_c (wr_el G) loop)))))) (fun b => ?_) (fun b => rfl)) (fun H => ?_)
  · show (gp b ++ wbt 5) ++ ((gp false ++ wbt 11) ++ ([10] ++ (gp true ++ btE (pE d) ((pS d).getD t 0) (z - (pS d).getD t 0 + 1)))) = _
    unfold thr9
    rw [List.append_assoc, List.append_assoc]
    rfl
  · unfold f_X4_writeThread b_X4_writeThread_0
    rw [mx]
theorem wr_all (G : GPr h) (C : CoR h co d) (P : PDk d) {D : List Nat} (hD : D.length ≤ 66) : ∀ j fu A, j ≤ (pS d).length → j < fu → (∀ s, (j = 0 → s = (pE d).length) → (0 < j → s = (pS d).getD ((pS d).length - j) 0) → PS (hp_i h) A (D ++ bdy (pS d) (pE d) s) true → (D ++ bdy (pS d) (pE d) s).length ≤ 66 + 9 * ((pS d).length - j) + 13 * s → ∃ A', l_X4_write_50 fu 72 co (nI ((pS d).length - j)) (sA h A) = some (nI (D ++ bdy (pS d) (pE d) (pE d).length).length, sA h A') ∧ PS (hp_i h) A' (D ++ bdy (pS d) (pE d) (pE d).length) true ∧ (D ++ bdy (pS d) (pE d) (pE d).length).length ≤ 1000) := by
  obtain ⟨b64, -, b4, -⟩ := P.1.2.2.1
  obtain ⟨⟨kk10, kk11, -⟩, he, hs, -⟩ := P.2.1
  have T := P.1.2.2.2.2.2.2
  have g11 : ∀ A W b, PS (hp_i h) A W b → g_i (sA h A) co 0 11 = some (nI (pS d).length) := fun A W b S => by
    rw [q_i C.1, S.2.2.2 _ _ (by have := C.2.2.2; omega) (by have := C.2.2.2; omega), C.2.2.1, kk11]
  intro j
  induction j with
  | zero =>
    intro fu A _ hf s s0 _ S hl
    obtain ⟨fu, rfl⟩ : ∃ f', fu = f' + 1 := ⟨fu - 1, by omega⟩
    rw [s0 rfl] at S hl
    refine ⟨A, ?_, S, by omega⟩
    show b_X4_write_50 (l_X4_write_50 fu) 72 co (nI (pS d).length) (sA h A) = _
    unfold b_X4_write_50
    rw [g11 _ _ _ S, Option.bind_some, if_pos (nI_le (Nat.le_refl _) (by omega))]
    unfold b_X4_write_80
    rw [q_i G.1, Option.bind_some, S.1]
  | succ j ih =>
    intro fu A hj hf s _ s1 S hl
    obtain ⟨fu, rfl⟩ : ∃ f', fu = f' + 1 := ⟨fu - 1, by omega⟩
    have s1 := s1 (by omega)
    have ej : (pS d).length - j = (pS d).length - (j + 1) + 1 := by omega
    have ih' := fun A => ih fu A (by omega) (by omega)
    rw [ej] at ih'
    generalize hi : (pS d).length - (j + 1) = t at *
    have ht : t < (pS d).length := by omega
    obtain ⟨z, z1, z2, z3, z4, z5, z6⟩ := T.2.2 t ht
    have bt := bdy_t T ht z1 z5
    have wt := wr_thd G C P ht z1 z2 z3 z4
    rw [s1] at S hl
    have bl := bt_l (E := pE d) (z - (pS d).getD t 0 + 1) ((pS d).getD t 0)
    have t9 : thr9.length = 9 := by decide
    have ln : (D ++ bdy (pS d) (pE d) (z + 1)).length ≤ 66 + 9 * (t + 1) + 13 * (z + 1) := by
      rw [bt, ← List.append_assoc, List.length_append, List.length_append (as := thr9), t9]
      omega
    obtain ⟨A1, x1, x2⟩ := wt A _ true S (by
      show (D ++ bdy (pS d) (pE d) ((pS d).getD t 0) ++ (thr9 ++ btE (pE d) ((pS d).getD t 0) (z - (pS d).getD t 0 + 1))).length ≤ 1000
      rw [List.append_assoc, ← bt]
      omega)
    have x2 : PS (hp_i h) A1 (D ++ bdy (pS d) (pE d) ((pS d).getD t 0) ++ (thr9 ++ btE (pE d) ((pS d).getD t 0) (z - (pS d).getD t 0 + 1))) true := x2
    rw [List.append_assoc, ← bt] at x2
    obtain ⟨A2, y1, y2⟩ := ih' A1 (z + 1) (fun e0 => (z6 (by omega)).symm) (fun e0 => (z5 (by omega)).symm) x2 ln
    refine ⟨A2, ?_, y2⟩
    show b_X4_write_50 (l_X4_write_50 fu) 72 co (nI t) (sA h A) = _
    unfold b_X4_write_50
    rw [g11 _ _ _ S, Option.bind_some, if_neg (nI_ge ht (by omega))]
    unfold b_X4_write_58
    rw [if_neg (show ¬ (4 : Int32) ≤ nI t from nI_ge (b := 4) (by omega) (by omega))]
    unfold b_X4_write_63
    obtain ⟨r1, r2, r3, r4⟩ := C.2.1 7 (by omega)
    rw [q_r C.1 rfl, Option.bind_some, show l_i (sA h A) (hp_r h co 7) (nI t) = some (A (hp_r h co 7) t) from l_iN (h := sA h A) r2 (by show t < hp_l h (hp_r h co 7); rw [r3]; show t < 4; omega) (by omega), Option.bind_some, S.2.2.2 _ _ (by omega) (by omega), r4, hs t ht, q_v G.1, Option.bind_some, x1, Option.bind_some, da]
    exact y1
/-- the class writes -/
theorem c_write (G : GPr h) (Cp : CPl h pr d) : ∃ A, f_X4_write 72 pr h = some (nI (pbt d).length, sA h A) ∧ PS (hp_i h) A (pbt d) true ∧ (pbt d).length ≤ 1000 := by
  obtain ⟨⟨a1, a2⟩, ⟨b1, b2⟩, c, ⟨e1, e2, e3, e4⟩, ⟨ek, P⟩, -⟩ := Cp
  have a1' := a1.1
  have e1' := e1.1
  have okp := sr_ok a1 a2
  have C : CoR h (hp_r h pr 0) d := ⟨sr_ok b1 b2, fun i hi => ⟨(c i hi).1.1, sr_ok (c i hi).1 (c i hi).2.1, (c i hi).2.2, by
    rw [← ek]
    unfold kh
    rw [if_pos hi]⟩, by rw [← ek]; rfl, b1.1⟩
  have S0 : PS (hp_i h) (up_2 (up_2 (hp_i h) 72 0 0) 72 2 1) [] true := ⟨by rw [u2 (by omega), u2s]; rfl, u2s, fun k hk => absurd hk (Nat.not_lt_zero _), fun r k h1 h2 => by rw [u2 (by omega), u2 (by omega)]⟩
  have cok : ∀ A W b (k : Nat), PS (hp_i h) A W b → ∃ w, w < 64 ∧ f_X5_cellsOfKind pr (nI k) (sA h A) = some (nI w, sA h A) ∧ ∀ c, c < 6 → (w.testBit c = true ↔ pK d c = nI k) := fun A W b k S => e_cok (k := nI k) (kd := pK d) (g := sA h A) (pr := pr) okp (sr_ok e1 e2) e3 (by
    show A (hp_r h pr 1) = pK d
    rw [← e4]
    funext q
    exact S.2.2.2 _ _ (by omega) (by omega))
  have l0 := dcb_l (kd := pK d) (k := 0) (by omega)
  have l1 := dcb_l (kd := pK d) (k := 1) (by omega)
  have l2 := dcb_l (kd := pK d) (k := 2) (by omega)
  obtain ⟨w0, v1, v2, v3⟩ := cok _ _ _ 0 S0
  obtain ⟨A1, x1, x2⟩ := wr_dcl (k := 0) G v1 (by omega) (pK d) v3 _ _ S0 (by rw [List.nil_append]; omega)
  obtain ⟨w1, u1, u2', u3⟩ := cok _ _ _ 1 x2
  obtain ⟨A2, y1, y2⟩ := wr_dcl (k := 1) G u1 (by omega) (pK d) u3 _ _ x2 (by rw [List.nil_append, List.length_append]; omega)
  obtain ⟨w2, t1, t2, t3⟩ := cok _ _ _ 2 y2
  obtain ⟨A3, z1, z2⟩ := wr_dcl (k := 2) G t1 (by omega) (pK d) t3 _ _ y2 (by rw [List.nil_append, List.length_append, List.length_append]; omega)
  rw [List.nil_append] at z2
  have hD : (dcb (pK d) 0 ++ dcb (pK d) 1 ++ dcb (pK d) 2).length ≤ 66 := by rw [List.length_append, List.length_append]; omega
  have T := P.1.2.2.2.2.2.2
  have n0 := P.1.2.2.1.2.2.2.1
  have b0 : bdy (pS d) (pE d) 0 = [] := rfl
  obtain ⟨A4, q1, q2, q3⟩ := wr_all G C P hD (pS d).length fu_ A3 (Nat.le_refl _) (by have := P.1.2.2.1.2.2.1; unfold fu_; omega) 0 (fun z => by omega) (fun _ => by rw [Nat.sub_self, T.2.1 n0]) (by rw [b0, List.append_nil]; exact z2) (by rw [b0, List.append_nil]; omega)
  rw [Nat.sub_self] at q1
  refine ⟨A4, ?_, q2, q3⟩
  unfold f_X4_write b_X4_write_0
  rw [show p_i h 72 4 0 (0 : Int32) = some (sA h (up_2 (hp_i h) 72 0 0)) from if_pos G.1, Option.bind_some, show p_z (sA h (up_2 (hp_i h) 72 0 0)) 72 4 2 (1 : Int32) = some (sA h (up_2 (up_2 (hp_i h) 72 0 0) 72 2 1)) from if_pos ⟨G.1, Or.inr rfl⟩, Option.bind_some, q_v okp, Option.bind_some, show f_X5_cellsOfKind pr (0 : Int32) _ = _ from v2, Option.bind_some, q_v G.1, Option.bind_some, show f_X4_writeDeclaration 72 2 (nI w0) _ = _ from x1, Option.bind_some, q_v okp, Option.bind_some, show f_X5_cellsOfKind pr (1 : Int32) (sA h A1) = _ from u2', Option.bind_some, q_v G.1, Option.bind_some, show f_X4_writeDeclaration 72 3 (nI w1) _ = _ from y1, Option.bind_some, q_v okp, Option.bind_some, show f_X5_cellsOfKind pr (2 : Int32) (sA h A2) = _ from t2, Option.bind_some, q_v G.1, Option.bind_some, show f_X4_writeDeclaration 72 4 (nI w2) _ = _ from z1, Option.bind_some, q_r okp rfl, Option.bind_some]
  exact q1
end
