/-! ===== same: the class's answer ===== -/
/-- a thread's entries before its stop -/
def tk_ (d : PD) (t : Nat) : Nat := (if t + 1 < (pS d).length then (pS d).getD (t + 1) 0 else (pE d).length) - (pS d).getD t 0 - 1
theorem tk_f {d : PD} {t : Nat} (P : PDk d) (ht : t < (pS d).length) : (pS d).getD t 0 + tk_ d t < (pE d).length ∧ en_op ((pE d).getD ((pS d).getD t 0 + tk_ d t) dE) = 10 ∧ (∀ i, i < tk_ d t → en_op ((pE d).getD ((pS d).getD t 0 + i) dE) ≠ 10) ∧ (t + 1 < (pS d).length → (pS d).getD (t + 1) 0 = (pS d).getD t 0 + tk_ d t + 1) ∧ (t + 1 = (pS d).length → (pE d).length = (pS d).getD t 0 + tk_ d t + 1) := by
  obtain ⟨z, z1, z2, z3, z4, z5, z6⟩ := P.1.2.2.2.2.2.2.2.2 t ht
  have e : (pS d).getD t 0 + tk_ d t = z := by
    unfold tk_
    by_cases c : t + 1 < (pS d).length
    · rw [if_pos c, z5 c]; omega
    · rw [if_neg c, z6 (by omega)]; omega
  rw [e]
  exact ⟨z2, z3, fun i hi => z4 _ (by omega) (by omega), fun c => by rw [z5 c], fun c => by rw [z6 c]⟩
def tpr (d d' : PD) (s s' : Nat) : Nat → Nat → MP
  | i, 0 => ep ((pE d).getD (s + i) dE) ((pE d').getD (s' + i) dE)
  | i, j + 1 => tpr d d' s s' (i + 1) j ++ ep ((pE d).getD (s + i) dE) ((pE d').getD (s' + i) dE)
theorem tpr_0 {d d' : PD} {s s' i : Nat} : tpr d d' s s' i 0 = ep ((pE d).getD (s + i) dE) ((pE d').getD (s' + i) dE) := by rw [tpr]
theorem tpr_s {d d' : PD} {s s' i j : Nat} : tpr d d' s s' i (j + 1) = tpr d d' s s' (i + 1) j ++ ep ((pE d).getD (s + i) dE) ((pE d').getD (s' + i) dE) := by rw [tpr]
/-- the thread that t becomes -/
def piR (row t : Nat) : Nat := row / 4 ^ t % 4
/-- thread t of d and thread u of d' -/
def TMt (d d' : PD) (t u : Nat) : Prop := ∀ i, i ≤ tk_ d t → sm d d' ((pE d).getD ((pS d).getD t 0 + i) dE) ((pE d').getD ((pS d').getD u 0 + i) dE)
def fpr (d d' : PD) (row : Nat) : Nat → MP
  | 0 => []
  | j + 1 => fpr d d' row j ++ tpr d d' ((pS d).getD ((pS d).length - (j + 1)) 0) ((pS d').getD (piR row ((pS d).length - (j + 1))) 0) 0 (tk_ d ((pS d).length - (j + 1)))
def FIT (d d' : PD) (row : Nat) : Prop := (∀ t, t < (pS d).length → TMt d d' t (piR row t)) ∧ okM (fpr d d' row (pS d).length)
def prm (row n : Nat) : Prop := (∀ t, t < n → piR row t < n) ∧ ∀ t, t < n → ∀ u, u < n → piR row t = piR row u → t = u
theorem pi_e : ∀ row, row < 256 → ∀ t, t < 4 → (nI row >>> (((2 : Int32) * nI t) &&& 31)) &&& (3 : Int32) = nI (piR row t) := by decide +kernel
theorem pi_4 {row t : Nat} : piR row t < 4 := Nat.mod_lt _ (by omega)
def tkx (row n : Nat) : Nat → Int32 → Int32
  | 0, x => x
  | j + 1, x => tkx row n j (x ||| ((1 : Int32) <<< (nI (piR row (n - (j + 1))) &&& 31)))
def prb (row n : Nat) : Bool := (List.range n).all (fun t => decide (piR row t < n)) && (List.range n).all (fun t => (List.range n).all (fun u => decide (piR row t = piR row u → t = u)))
theorem prb_i {row n : Nat} : prb row n = true ↔ prm row n := by
  unfold prb prm
  rw [Bool.and_eq_true, List.all_eq_true, List.all_eq_true]
  constructor
  · intro z
    exact ⟨fun t ht => of_decide_eq_true (z.1 t (List.mem_range.mpr ht)), fun t ht u hu => of_decide_eq_true (List.all_eq_true.mp (z.2 t (List.mem_range.mpr ht)) u (List.mem_range.mpr hu))⟩
  · intro z
    exact ⟨fun t ht => decide_eq_true (z.1 t (List.mem_range.mp ht)), fun t ht => List.all_eq_true.mpr (fun u hu => decide_eq_true (z.2 t (List.mem_range.mp ht) u (List.mem_range.mp hu)))⟩
theorem tkx_e : ∀ n, n < 5 → ∀ row, row < 4 ^ n → (tkx row n n 0 = ((1 : Int32) <<< (nI n &&& 31)) - 1 ↔ prb row n = true) := by decide +kernel
theorem sh_4 : ∀ n, n < 5 → (1 : Int32) <<< (((2 : Int32) * nI n) &&& 31) = nI (4 ^ n) ∧ 4 ^ n ≤ 256 := by decide
theorem te_e {n row : Nat} {h : AH} (hn : n < 5) (hr : row < 4 ^ n) : (prm row n ∧ f_X1_takesEachThread (nI row) (nI n) h = some (1, h)) ∨ (¬ prm row n ∧ f_X1_takesEachThread (nI row) (nI n) h = some (0, h)) := by
  have r256 : row < 256 := by have := (sh_4 n hn).2; omega
  have key : ∀ j fu x, j ≤ n → j < fu → l_X1_takesEachThread_4 fu (nI row) (nI n) x (nI (n - j)) h = b_X1_takesEachThread_27 (nI n) (tkx row n j x) h := by
    intro j
    induction j with
    | zero =>
      intro fu x _ hf
      obtain ⟨fu, rfl⟩ : ∃ f', fu = f' + 1 := ⟨fu - 1, by omega⟩
      show b_X1_takesEachThread_4 (l_X1_takesEachThread_4 fu) (nI row) (nI n) x (nI n) h = _
      unfold b_X1_takesEachThread_4
      rw [if_pos (nI_le (Nat.le_refl _) (by omega))]
      rfl
    | succ j ih =>
      intro fu x hj hf
      obtain ⟨fu, rfl⟩ : ∃ f', fu = f' + 1 := ⟨fu - 1, by omega⟩
      have ej : n - j = n - (j + 1) + 1 := by omega
      show b_X1_takesEachThread_4 (l_X1_takesEachThread_4 fu) (nI row) (nI n) x (nI (n - (j + 1))) h = _
      unfold b_X1_takesEachThread_4
      rw [if_neg (nI_ge (by omega) (by omega))]
      unfold b_X1_takesEachThread_9
      rw [pi_e row r256 _ (by omega), da, ← ej, ih fu _ (by omega) (by omega)]
      rfl
  have e := key n fu_ 0 (Nat.le_refl _) (by unfold fu_; omega)
  rw [Nat.sub_self] at e
  have e0 : f_X1_takesEachThread (nI row) (nI n) h = b_X1_takesEachThread_27 (nI n) (tkx row n n 0) h := e
  rw [e0]
  unfold b_X1_takesEachThread_27
  by_cases c : prm row n
  · exact Or.inl ⟨c, by rw [if_pos ((tkx_e n hn row hr).mpr (prb_i.mpr c))]; exact ok_z_1⟩
  · exact Or.inr ⟨c, by rw [if_neg (fun z => c (prb_i.mp ((tkx_e n hn row hr).mp z)))]; exact ok_z_0⟩
section
variable {h : AH} {pr pr' : Nat} {d d' : PD}
theorem rs_44 {s s' i fu : Nat} {P2 : Prop} {N2 : MP} (C : CPl h pr d) (hi : s + i < (pE d).length) (F2 : RSx h (fun H => if pR d 0 (s + i) = (10 : Int32) then ok_z 1 H else l_X1_threadFits_3 fu 99 pr pr' (nI s) (nI s') (nI (i + 1)) H) P2 N2) : RSx h (b_X1_threadFits_44 (l_X1_threadFits_3 fu) 99 pr pr' (nI s) (nI s') (nI i) (nI (s + i))) P2 N2 := by
  have b64 := C.2.2.2.2.1.2.1.2.2.1.1
  have ok := sr_ok C.1.1 C.1.2
  have cr := co_r C
  refine rs_eq (f := fun H => (g_r H pr 5 0).bind fun x1 => (fun x1 H => (g_r H x1 0 0).bind fun x2 => (l_i H x2 (nI (s + i))).bind fun v => if v = (10 : Int32) then ok_z 1 H else l_X1_threadFits_3 fu 99 pr pr' (nI s) (nI s') (nI (i + 1)) H) x1 H) ?_ (fun H => ?_)
  · refine rs_g ok ?_
    exact rs_rd (g := fun v H => if v = (10 : Int32) then ok_z 1 H else l_X1_threadFits_3 fu 99 pr pr' (nI s) (nI s') (nI (i + 1)) H) cr (by omega) (by show s + i < 64; omega) F2
  · unfold b_X1_threadFits_44 b_X1_threadFits_59 b_X1_threadFits_61
    rw [da]
theorem rs_ths {s s' i fu : Nat} {P2 : Prop} {N2 : MP} (T : TwP h pr pr' d d') (hi : s + i < (pE d).length) (hi' : s' + i < (pE d').length) (F2 : sm d d' ((pE d).getD (s + i) dE) ((pE d').getD (s' + i) dE) → RSx h (fun H => if pR d 0 (s + i) = (10 : Int32) then ok_z 1 H else l_X1_threadFits_3 fu 99 pr pr' (nI s) (nI s') (nI (i + 1)) H) P2 N2) : RSx h (l_X1_threadFits_3 (fu + 1) 99 pr pr' (nI s) (nI s') (nI i)) (sm d d' ((pE d).getD (s + i) dE) ((pE d').getD (s' + i) dE) ∧ P2) (N2 ++ ep ((pE d).getD (s + i) dE) ((pE d').getD (s' + i) dE)) := by
  have ent := rs_ent (e := s + i) (f := s' + i) T hi hi'
  have w44 := fun q => rs_44 T.2.1 hi (F2 q)
  have b64 := T.2.1.2.2.2.2.1.2.1.2.2.1.1
  have b64' := T.2.2.2.2.2.2.1.2.1.2.2.1.1
  refine rs_eq (rs_v T.1.1 (rs_seq ent w44)) (fun H => ?_)
  have e : b_X1_threadFits_3 (l_X1_threadFits_3 fu) 99 pr pr' (nI s) (nI s') (nI i) H = b_X1_threadFits_10 (l_X1_threadFits_3 fu) 99 pr pr' (nI s) (nI s') (nI i) H := if_neg (show ¬ (64 : Int32) ≤ nI i from nI_ge (b := 64) (by omega) (by omega))
  refine (show l_X1_threadFits_3 (fu + 1) 99 pr pr' (nI s) (nI s') (nI i) H = _ from e).trans ?_
  unfold b_X1_threadFits_10 b_X1_threadFits_42
  rw [nI_add, nI_add, and63 (by omega), and63 (by omega)]
theorem rs_thr {s k s' k' : Nat} (T : TwP h pr pr' d d') (hk : s + k < (pE d).length) (hk' : s' + k' < (pE d').length) (o1 : en_op ((pE d).getD (s + k) dE) = 10) (o2 : ∀ i, i < k → en_op ((pE d).getD (s + i) dE) ≠ 10) (o3 : en_op ((pE d').getD (s' + k') dE) = 10) :
    ∀ j i fu, i + j = k → i ≤ k' → j < fu → RSx h (l_X1_threadFits_3 fu 99 pr pr' (nI s) (nI s') (nI i)) (∀ i', i ≤ i' → i' ≤ k → sm d d' ((pE d).getD (s + i') dE) ((pE d').getD (s' + i') dE)) (tpr d d' s s' i j) := by
  have P := T.2.1.2.2.2.2.1.2
  have b64 := P.1.2.2.1.1
  obtain ⟨-, he', -⟩ := P.2.1
  have t10 : ∀ i, i ≤ k → (pR d 0 (s + i) = (10 : Int32) ↔ en_op ((pE d).getD (s + i) dE) = 10) := fun i hi => by
    have w := (P.1.1.1 (s + i) (by omega)).2.1
    rw [(he' (s + i) (by omega)).1]
    exact nI_eq (b := 10) (by omega) (by omega)
  intro j
  induction j with
  | zero =>
    intro i fu hi hi' hf
    obtain ⟨fu, rfl⟩ : ∃ f', fu = f' + 1 := ⟨fu - 1, by omega⟩
    have ik : i = k := by omega
    have q1 : pR d 0 (s + i) = (10 : Int32) := (t10 i (by omega)).mpr (by rw [ik]; exact o1)
    have F2 : RSx h (fun H => if pR d 0 (s + i) = (10 : Int32) then ok_z 1 H else l_X1_threadFits_3 fu 99 pr pr' (nI s) (nI s') (nI (i + 1)) H) True [] := rs_eq rs_t (fun H => if_pos q1)
    refine rs_cg (rs_ths T (by omega) (by omega) (fun _ => F2)) ⟨fun z i' h1 h2 => ?_, fun z => ⟨z i (Nat.le_refl _) (by omega), trivial⟩⟩ (by rw [tpr_0, List.nil_append])
    have : i' = i := by omega
    rw [this]; exact z.1
  | succ j ih =>
    intro i fu hi hi' hf
    obtain ⟨fu, rfl⟩ : ∃ f', fu = f' + 1 := ⟨fu - 1, by omega⟩
    have nx := o2 i (by omega)
    have q1 : ¬ pR d 0 (s + i) = (10 : Int32) := fun z => nx ((t10 i (by omega)).mp z)
    refine rs_cg (rs_ths (P2 := ∀ i', i + 1 ≤ i' → i' ≤ k → sm d d' ((pE d).getD (s + i') dE) ((pE d').getD (s' + i') dE)) (N2 := tpr d d' s s' (i + 1) j) T (by omega) (by omega) (fun q => ?_)) ⟨fun z i' h1 h2 => ?_, fun z => ⟨z i (Nat.le_refl _) (by omega), fun i' h1 h2 => z i' (by omega) h2⟩⟩ tpr_s.symm
    · have k1 : i ≠ k' := fun z => nx (by rw [q.1, z]; exact o3)
      exact rs_eq (ih (i + 1) fu (by omega) (by omega) (by omega)) (fun H => if_neg q1)
    · by_cases e : i' = i
      · rw [e]; exact z.1
      · exact z.2 i' (by omega) h2
theorem rs_gi {f : Int32 → AH → Option (Int32 × AH)} {P : Prop} {N : MP} {co k : Nat} {d : PD} (C : CoR h co d) (F : RSx h (f (pR d 10 k)) P N) : RSx h (fun H => (g_i H co 0 k).bind fun x => f x H) P N := by
  intro A M a b dd
  obtain ⟨v, A1, x1, x2⟩ := F A M a b dd
  refine ⟨v, A1, ?_, x2⟩
  have := C.2.2.2
  show (g_i (sA h A) co 0 k).bind _ = _
  rw [q_i C.1, Option.bind_some, a _ _ (by omega) (by omega), C.2.2.1]; exact x1
theorem rs_fit {row : Nat} (T : TwP h pr pr' d d') (nt : (pS d).length = (pS d').length) (hr : row < 256) (hp : ∀ t, t < (pS d).length → piR row t < (pS d).length) : ∀ j fu, j ≤ (pS d).length → j < fu → RSx h (l_X1_fits_19 fu 99 pr pr' (nI row) (nI ((pS d).length - j))) (∀ t, (pS d).length - j ≤ t → t < (pS d).length → TMt d d' t (piR row t)) (fpr d d' row j) := by
  have T0 := T
  obtain ⟨G, C, C'⟩ := T
  have P := C.2.2.2.2.1.2
  have P' := C'.2.2.2.2.1.2
  obtain ⟨b64, -, b4, -⟩ := P.1.2.2.1
  obtain ⟨b64', -, b4', -⟩ := P'.1.2.2.1
  obtain ⟨⟨kk10, kk11, -⟩, -, hs, -⟩ := P.2.1
  obtain ⟨-, -, hs', -⟩ := P'.2.1
  have ok := sr_ok C.1.1 C.1.2
  have ok' := sr_ok C'.1.1 C'.1.2
  have cr := co_r C
  have cr' := co_r C'
  intro j
  induction j with
  | zero =>
    intro fu _ hf
    obtain ⟨fu, rfl⟩ : ∃ f', fu = f' + 1 := ⟨fu - 1, by omega⟩
    refine rs_cg (P1 := True) (N1 := []) ?_ ⟨fun _ t h1 h2 => by omega, fun _ => trivial⟩ rfl
    refine rs_eq (f := fun H => (g_r H pr 5 0).bind fun x1 => (fun x1 H => (g_i H x1 0 11).bind fun x2 => (fun x2 H => if x2 ≤ nI (pS d).length then ok_z 1 H else b_X1_fits_31 (l_X1_fits_19 fu) 99 pr pr' (nI row) (nI (pS d).length) H) x2 H) x1 H) ?_ (fun H => rfl)
    refine rs_g ok (rs_gi cr ?_)
    rw [kk11]
    exact rs_eq rs_t (fun H => if_pos (nI_le (Nat.le_refl _) (by omega)))
  | succ j ih =>
    intro fu hj hf
    obtain ⟨fu, rfl⟩ : ∃ f', fu = f' + 1 := ⟨fu - 1, by omega⟩
    have ih' := ih fu (by omega) (by omega)
    have ej : (pS d).length - j = (pS d).length - (j + 1) + 1 := by omega
    rw [ej] at ih'
    show RSx h _ _ (fpr d d' row j ++ tpr d d' ((pS d).getD ((pS d).length - (j + 1)) 0) ((pS d').getD (piR row ((pS d).length - (j + 1))) 0) 0 (tk_ d ((pS d).length - (j + 1))))
    generalize hi : (pS d).length - (j + 1) = t at *
    have ht : t < (pS d).length := by omega
    have hpt := hp t ht
    obtain ⟨f1, f2, f3, -, -⟩ := tk_f P ht
    obtain ⟨g1, g2, -, -, -⟩ := tk_f P' (t := piR row t) (by omega)
    have th := rs_thr T0 f1 g1 f2 f3 g2 (tk_ d t) 0 fu_ (by omega) (by omega) (by unfold fu_; omega)
    have w37 : RSx h (b_X1_fits_37 (l_X1_fits_19 fu) 99 pr pr' (nI row) (nI t)) (TMt d d' t (piR row t) ∧ ∀ u, t + 1 ≤ u → u < (pS d).length → TMt d d' u (piR row u)) (fpr d d' row j ++ tpr d d' ((pS d).getD t 0) ((pS d').getD (piR row t) 0) 0 (tk_ d t)) := by
      refine rs_eq (f := fun H => (g_r H pr 5 0).bind fun x1 => (fun x1 H => (g_r H x1 0 7).bind fun x2 => (l_i H x2 (nI t)).bind fun v => (fun v H => (g_r H pr' 5 0).bind fun x4 => (fun x4 H => (g_r H x4 0 7).bind fun x5 => (l_i H x5 (nI (piR row t))).bind fun v' => (fun v' H => (ok_v H 99 1).bind fun _ => (f_X1_threadFits 99 pr pr' v v' H).bind fun q8 => if q8.1 = 0 then ok_z 0 q8.2 else b_X1_fits_82 (l_X1_fits_19 fu) 99 pr pr' (nI row) (nI t) q8.2) v' H) x4 H) v H) x1 H) ?_ (fun H => ?_)
      · refine rs_g ok (rs_rd cr (by omega) (by show t < 4; omega) ?_)
        rw [hs t ht]
        refine rs_g ok' (rs_rd cr' (by omega) (by show piR row t < 4; omega) ?_)
        rw [hs' (piR row t) (by omega)]
        refine rs_v G.1 (rs_seq (f1 := f_X1_threadFits 99 pr pr' (nI ((pS d).getD t 0)) (nI ((pS d').getD (piR row t) 0))) (rs_cg th ⟨fun z i h2 => z i (Nat.zero_le _) h2, fun z i _ h2 => z i h2⟩ rfl) (fun _ => rs_eq ih' (fun H => ?_)))
        unfold b_X1_fits_82
        rw [da]
      · unfold b_X1_fits_37 b_X1_fits_80
        rw [pi_e row hr t (by omega)]
    refine rs_cg (P1 := TMt d d' t (piR row t) ∧ ∀ u, t + 1 ≤ u → u < (pS d).length → TMt d d' u (piR row u)) ?_ ⟨fun z u h1 h2 => ?_, fun z => ⟨z t (Nat.le_refl _) ht, fun u h1 h2 => z u (by omega) h2⟩⟩ rfl
    · refine rs_eq (f := fun H => (g_r H pr 5 0).bind fun x1 => (fun x1 H => (g_i H x1 0 11).bind fun x2 => (fun x2 H => if x2 ≤ nI t then b_X1_fits_88 H else b_X1_fits_31 (l_X1_fits_19 fu) 99 pr pr' (nI row) (nI t) H) x2 H) x1 H) ?_ (fun H => rfl)
      refine rs_g ok (rs_gi cr ?_)
      rw [kk11]
      refine rs_eq w37 (fun H => ?_)
      rw [if_neg (nI_ge ht (by omega))]
      unfold b_X1_fits_31
      rw [if_neg (show ¬ (4 : Int32) ≤ nI t from nI_ge (b := 4) (by omega) (by omega))]
    · by_cases e : u = t
      · rw [e]; exact z.1
      · exact z.2 u (by omega) h2
/-- Arrays.fill of a row of sixteen -/
theorem jf_16 {r : Nat} (o : ok_o h r 100) (l : hp_l h r = 16) (A : Nat → Nat → Int32) : ∃ A', f_J7_fill_53178 r (-1 : Int32) (sA h A) = some (sA h A') ∧ (∀ k, k < 16 → A' r k = -1) ∧ ∀ q k, q ≠ r → A' q k = A q k := by
  have key : ∀ j fu A, j ≤ 16 → j < fu → ∃ A', l_J7_fill_53178_5 fu r (-1) (nI (16 - j)) (nI 16) (sA h A) = some (sA h A') ∧ (∀ k, 16 - j ≤ k → k < 16 → A' r k = -1) ∧ ∀ q k, (q ≠ r ∨ k < 16 - j) → A' q k = A q k := by
    intro j
    induction j with
    | zero =>
      intro fu A _ hf
      obtain ⟨fu, rfl⟩ : ∃ f', fu = f' + 1 := ⟨fu - 1, by omega⟩
      refine ⟨A, ?_, fun k h1 h2 => by omega, fun _ _ _ => rfl⟩
      show b_J7_fill_53178_5 (l_J7_fill_53178_5 fu) r (-1) (nI 16) (nI 16) (sA h A) = _
      unfold b_J7_fill_53178_5
      rw [if_pos (by decide)]; rfl
    | succ j ih =>
      intro fu A hj hf
      obtain ⟨fu, rfl⟩ : ∃ f', fu = f' + 1 := ⟨fu - 1, by omega⟩
      have ej : 16 - j = 16 - (j + 1) + 1 := by omega
      obtain ⟨A', x1, x2, x3⟩ := ih fu (up_2 A r (16 - (j + 1)) (-1)) (by omega) (by omega)
      rw [ej] at x1 x2 x3
      generalize hi : 16 - (j + 1) = i at *
      refine ⟨A', ?_, fun k h1 h2 => ?_, fun q k hq => ?_⟩
      · show b_J7_fill_53178_5 (l_J7_fill_53178_5 fu) r (-1) (nI i) (nI 16) (sA h A) = _
        unfold b_J7_fill_53178_5
        rw [if_neg (nI_ge (by omega) (by omega))]
        unfold b_J7_fill_53178_10
        rw [show s_i (sA h A) r (nI i) (-1 : Int32) = some (sA h (up_2 A r i (-1))) from s_iN (h := sA h A) o (by show i < hp_l h r; omega) (by omega), Option.bind_some, da]
        exact x1
      · by_cases e : k = i
        · rw [e, x3 r i (Or.inr (by omega)), u2s]
        · exact x2 k (by omega) h2
      · rw [x3 q k (hq.imp id (fun z => by omega)), u2 (hq.imp id (fun z => by omega))]
  obtain ⟨A', x1, x2, x3⟩ := key 16 fu_ A (Nat.le_refl _) (by unfold fu_; omega)
  refine ⟨A', ?_, fun k hk => x2 k (by omega) hk, fun q k hq => x3 q k (Or.inl hq)⟩
  unfold f_J7_fill_53178 b_J7_fill_53178_0
  rw [show al_n (sA h A) r = some (nI 16) from al_r (h := sA h A) o l, Option.bind_some]
  exact x1
theorem c_fits {row : Nat} (T : TwP h pr pr' d d') (nt : (pS d).length = (pS d').length) (hr : row < 256) (hp : ∀ t, t < (pS d).length → piR row t < (pS d).length) (A : Nat → Nat → Int32) (a : Fm h A) : ∃ v A', f_X1_fits 99 pr pr' (nI row) (sA h A) = some (v, sA h A') ∧ (v = 0 ∨ v = 1) ∧ (v = 1 ↔ FIT d d' row) ∧ Fm h A' := by
  have T0 := T
  obtain ⟨⟨g1, g2, g3, g4, g5, g6, g7⟩, C, -⟩ := T
  obtain ⟨A1, x1, x2, x3⟩ := jf_16 g4 g5 A
  obtain ⟨A2, y1, y2, y3⟩ := jf_16 g6 g7 A1
  have fm : Fm h A2 := fun r k h1 h2 => by rw [y3 r k h2, x3 r k h1]; exact a r k h1 h2
  have b4 := C.2.2.2.2.1.2.1.2.2.1.2.2.1
  obtain ⟨v, A', z1, z2, z3, -, z5⟩ := rs_fit T0 nt hr hp (pS d).length fu_ (Nat.le_refl _) (by unfold fu_; omega) A2 [] fm ⟨fun x hx => (by cases hx), fun a va _ => by rw [y3 100 _ (by omega)]; exact x2 _ (ph_lt va), fun b vb _ => y2 _ (ph_lt vb)⟩ (fun x hx => (by cases hx))
  rw [Nat.sub_self] at z1 z3
  refine ⟨v, A', ?_, z2, z3.trans ⟨fun w => ⟨fun t ht => w.1 t (Nat.zero_le _) ht, by rw [List.append_nil] at w; exact w.2⟩, fun w => ⟨fun t _ ht => w.1 t ht, by rw [List.append_nil]; exact w.2⟩⟩, z5⟩
  unfold f_X1_fits b_X1_fits_0
  rw [q_r g1 g2, Option.bind_some, x1, Option.bind_some, q_r g1 g3, Option.bind_some, y1, Option.bind_some]
  exact z1
theorem c_holds (T : TwP h pr pr' d d') : ∃ v A', f_X1_holds 99 pr pr' h = some (v, sA h A') ∧ (v = 0 ∨ v = 1) ∧ (v = 1 ↔ (pS d).length = (pS d').length ∧ (pE d).length = (pE d').length ∧ ∃ row, row < 4 ^ (pS d).length ∧ prm row (pS d).length ∧ FIT d d' row) ∧ Fm h A' := by
  have T0 := T
  obtain ⟨G, C, C'⟩ := T
  have P := C.2.2.2.2.1.2
  have P' := C'.2.2.2.2.1.2
  obtain ⟨b64, -, b4, -⟩ := P.1.2.2.1
  obtain ⟨b64', -, b4', -⟩ := P'.1.2.2.1
  obtain ⟨⟨kk10, kk11, -⟩, -⟩ := P.2.1
  obtain ⟨⟨jj10, jj11, -⟩, -⟩ := P'.2.1
  have ok := sr_ok C.1.1 C.1.2
  have ok' := sr_ok C'.1.1 C'.1.2
  have cr := co_r C
  have cr' := co_r C'
  have gk : ∀ k, g_i h (hp_r h pr 0) 0 k = some (pR d 10 k) := fun k => (if_pos cr.1).trans (by rw [cr.2.2.1])
  have gj : ∀ k, g_i h (hp_r h pr' 0) 0 k = some (pR d' 10 k) := fun k => (if_pos cr'.1).trans (by rw [cr'.2.2.1])
  have fm0 : Fm h (hp_i h) := fun _ _ _ _ => rfl
  have e0 : f_X1_holds 99 pr pr' h = if nI (pS d).length = nI (pS d').length then b_X1_holds_19 99 pr pr' (nI (pS d).length) h else b_X1_holds_36 h := by
    unfold f_X1_holds b_X1_holds_0
    rw [show g_r h pr 5 0 = some (hp_r h pr 0) from if_pos ok, Option.bind_some, gk, Option.bind_some, show g_r h pr' 5 0 = some (hp_r h pr' 0) from if_pos ok', Option.bind_some, gj, Option.bind_some, kk11, jj11]
  by_cases nt : (pS d).length = (pS d').length
  · rw [if_pos (by rw [nt])] at e0
    have e1 : b_X1_holds_19 99 pr pr' (nI (pS d).length) h = if nI (pE d).length = nI (pE d').length then b_X1_holds_38 99 pr pr' (nI (pS d).length) h else b_X1_holds_36 h := by
      unfold b_X1_holds_19
      rw [show g_r h pr 5 0 = some (hp_r h pr 0) from if_pos ok, Option.bind_some, gk, Option.bind_some, show g_r h pr' 5 0 = some (hp_r h pr' 0) from if_pos ok', Option.bind_some, gj, Option.bind_some, kk10, jj10]
    rw [e1] at e0
    by_cases sz : (pE d).length = (pE d').length
    · rw [if_pos (by rw [sz])] at e0
      obtain ⟨s1, s2⟩ := sh_4 (pS d).length (by omega)
      have key : ∀ j fu A, j ≤ 4 ^ (pS d).length → j < fu → Fm h A → ∃ v A', l_X1_holds_41 fu 99 pr pr' (nI (pS d).length) (nI (4 ^ (pS d).length - j)) (sA h A) = some (v, sA h A') ∧ (v = 0 ∨ v = 1) ∧ (v = 1 ↔ ∃ row, 4 ^ (pS d).length - j ≤ row ∧ row < 4 ^ (pS d).length ∧ prm row (pS d).length ∧ FIT d d' row) ∧ Fm h A' := by
        intro j
        induction j with
        | zero =>
          intro fu A _ hf a
          obtain ⟨fu, rfl⟩ : ∃ f', fu = f' + 1 := ⟨fu - 1, by omega⟩
          refine ⟨0, A, ?_, Or.inl rfl, ⟨fun z => absurd z (by decide), fun ⟨row, h1, h2, _⟩ => by omega⟩, a⟩
          show b_X1_holds_41 (l_X1_holds_41 fu) 99 pr pr' (nI (pS d).length) (nI (4 ^ (pS d).length)) (sA h A) = _
          unfold b_X1_holds_41
          rw [s1, if_pos (nI_le (Nat.le_refl _) (by omega))]
          exact ok_z_0
        | succ j ih =>
          intro fu A hj hf a
          obtain ⟨fu, rfl⟩ : ∃ f', fu = f' + 1 := ⟨fu - 1, by omega⟩
          have ej : 4 ^ (pS d).length - j = 4 ^ (pS d).length - (j + 1) + 1 := by omega
          have ih' := fun A => ih fu A (by omega) (by omega)
          rw [ej] at ih'
          generalize hi : 4 ^ (pS d).length - (j + 1) = row at *
          have hrow : row < 4 ^ (pS d).length := by omega
          have st : l_X1_holds_41 (fu + 1) 99 pr pr' (nI (pS d).length) (nI row) (sA h A) = (f_X1_takesEachThread (nI row) (nI (pS d).length) (sA h A)).bind fun q1 => if q1.1 = 0 then b_X1_holds_73 (l_X1_holds_41 fu) 99 pr pr' (nI (pS d).length) (nI row) q1.2 else b_X1_holds_60 (l_X1_holds_41 fu) 99 pr pr' (nI (pS d).length) (nI row) q1.2 := by
            show b_X1_holds_41 (l_X1_holds_41 fu) 99 pr pr' (nI (pS d).length) (nI row) (sA h A) = _
            unfold b_X1_holds_41
            rw [s1, if_neg (nI_ge hrow (by omega))]
            rfl
          have go : ∀ A1, Fm h A1 → ¬ (prm row (pS d).length ∧ FIT d d' row) → ∃ v A', b_X1_holds_73 (l_X1_holds_41 fu) 99 pr pr' (nI (pS d).length) (nI row) (sA h A1) = some (v, sA h A') ∧ (v = 0 ∨ v = 1) ∧ (v = 1 ↔ ∃ r, row ≤ r ∧ r < 4 ^ (pS d).length ∧ prm r (pS d).length ∧ FIT d d' r) ∧ Fm h A' := fun A1 a1 no => by
            obtain ⟨v, A', y1, y2, y3, y4⟩ := ih' A1 a1
            refine ⟨v, A', ?_, y2, y3.trans ⟨fun ⟨r, h1, h2⟩ => ⟨r, by omega, h2⟩, fun ⟨r, h1, h2, h3⟩ => ?_⟩, y4⟩
            · unfold b_X1_holds_73
              rw [da]
              exact y1
            · by_cases e : r = row
              · rw [e] at h3; exact absurd h3 no
              · exact ⟨r, by omega, h2, h3⟩
          rcases te_e (h := sA h A) (n := (pS d).length) (by omega) hrow with ⟨p1, p2⟩ | ⟨p1, p2⟩
          · rw [st, p2, Option.bind_some, if_neg n10]
            obtain ⟨v, A1, x1, x2, x3, x4⟩ := c_fits T0 nt (by omega) p1.1 A a
            have e60 : b_X1_holds_60 (l_X1_holds_41 fu) 99 pr pr' (nI (pS d).length) (nI row) (sA h A) = if v = 0 then b_X1_holds_73 (l_X1_holds_41 fu) 99 pr pr' (nI (pS d).length) (nI row) (sA h A1) else ok_z 1 (sA h A1) := by
              unfold b_X1_holds_60
              rw [q_v G.1, Option.bind_some, x1, Option.bind_some]
              rfl
            rcases x2 with z | z
            · rw [e60, if_pos z]
              exact go A1 x4 (fun w => by have := x3.mpr w.2; rw [z] at this; exact absurd this (by decide))
            · rw [e60, if_neg (by rw [z]; decide)]
              exact ⟨1, A1, ok_z_1, Or.inr rfl, ⟨fun _ => ⟨row, Nat.le_refl _, hrow, p1, x3.mp z⟩, fun _ => rfl⟩, x4⟩
          · rw [st, p2, Option.bind_some, if_pos rfl]
            exact go A a (fun w => p1 w.1)
      obtain ⟨v, A', y1, y2, y3, y4⟩ := key (4 ^ (pS d).length) fu_ (hp_i h) (Nat.le_refl _) (by unfold fu_; omega) fm0
      rw [Nat.sub_self] at y1 y3
      exact ⟨v, A', e0.trans y1, y2, y3.trans ⟨fun ⟨r, _, h2⟩ => ⟨nt, sz, r, h2⟩, fun ⟨_, _, r, h2⟩ => ⟨r, Nat.zero_le _, h2⟩⟩, y4⟩
    · rw [if_neg (fun z => sz ((nI_eq (by omega) (by omega)).mp z))] at e0
      exact ⟨0, hp_i h, e0.trans ok_z_0, Or.inl rfl, ⟨fun z => absurd z (by decide), fun z => absurd z.2.1 sz⟩, fm0⟩
  · rw [if_neg (fun z => nt ((nI_eq (by omega) (by omega)).mp z))] at e0
    exact ⟨0, hp_i h, e0.trans ok_z_0, Or.inl rfl, ⟨fun z => absurd z (by decide), fun z => absurd z.1 nt⟩, fm0⟩
end
