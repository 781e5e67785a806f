/-! ===== print ===== -/
theorem av1 {P : Nat → Prop} {a : Nat} {l : List Nat} (h : P a) (hl : ∀ t, t ∈ l → P t) : ∀ t, t ∈ a :: l → P t := fun t ht => by
  rcases List.mem_cons.mp ht with z | z
  · rw [z]; exact h
  · exact hl t z
theorem av0 {P : Nat → Prop} : ∀ t, t ∈ ([] : List Nat) → P t := fun t ht => by cases ht
theorem avA {P : Nat → Prop} {l l' : List Nat} (h : ∀ t, t ∈ l → P t) (h' : ∀ t, t ∈ l' → P t) : ∀ t, t ∈ l ++ l' → P t := fun t ht => (List.mem_append.mp ht).elim (h t) (h' t)
theorem vt_3 {c : Nat} (h : c < 10) : VT (300 + c) := by unfold VT; omega
theorem vt_4 {c : Nat} (h : c < 10) : VT (400 + c) := by unfold VT; omega
theorem vt_5 {c : Nat} (h : c < 10) : VT (500 + c) := by unfold VT; omega
theorem vt_6 {c : Nat} (h : c < 10) : VT (600 + c) := by unfold VT; omega
theorem vt_x {bs dg : Int32} (hb : bs = -1 ∨ ∃ b, b < 5 ∧ bs = nI b) (hd : dg = -1 ∨ ∃ d, d ≤ 9 ∧ dg = nI d) (hn : bs = -1 → dg ≠ -1) : (∀ t, t ∈ rnx bs dg → VT t) ∧ ∀ t, t ∈ bex bs dg → t < 256 := by
  unfold rnx bex
  rcases hb with zb | ⟨b, b1, b2⟩
  · rw [if_pos zb, if_pos zb]
    obtain ⟨k, k1, k2⟩ := hd.resolve_left (hn zb)
    have e : ix dg = k := by rw [k2]; exact ix_nI (by omega)
    rw [e]
    exact ⟨av1 (vt_6 (by omega)) av0, av1 (by omega) (av1 (by omega) av0)⟩
  · have zb : ¬ bs = -1 := by rw [b2]; exact nI_ne1 (by omega)
    have eb : ix bs = b := by rw [b2]; exact ix_nI (by omega)
    rw [if_neg zb, if_neg zb, eb]
    by_cases zd : dg = -1
    · rw [if_pos zd, if_pos zd]
      exact ⟨av1 (vt_4 (by omega)) av0, av1 (by omega) (av1 (by omega) (av1 (by omega) av0))⟩
    · obtain ⟨k, k1, k2⟩ := hd.resolve_left zd
      have e : ix dg = k := by rw [k2]; exact ix_nI (by omega)
      rw [if_neg zd, if_neg zd, e]
      exact ⟨av1 (vt_4 (by omega)) (av1 (by unfold VT; omega) (av1 (vt_6 (by omega)) av0)), av1 (by omega) (av1 (by omega) (av1 (by omega) (av1 (by omega) (av1 (by omega) (av1 (by omega) (av1 (by omega) av0))))))⟩
theorem wb_256 : ∀ r, r < 18 → ∀ t, t ∈ wbt r → t < 256 := by decide +kernel
theorem vt_e {x : Ent} {AL : List Act} {ow kd : Nat → Int32} {dn : Int32} {i : Nat} (F : FX AL ow kd dn i x) : (∀ t, t ∈ rne x → VT t) ∧ ∀ t, t ∈ be x → t < 256 := by
  obtain ⟨f1, -, -, f4, f5, f6, f7, f8, f9, -⟩ := F
  unfold rne be
  by_cases c0 : en_op x = 0
  · rw [if_pos c0, if_pos c0]
    obtain ⟨l, l1, l2, -⟩ := f6 (Or.inl c0)
    obtain ⟨c, k1, k2, -⟩ := f4 (Or.inl c0)
    rw [l2, k2, ix_nI (by omega), ix_nI (by omega)]
    exact ⟨av1 (vt_4 (by omega)) (av1 (by unfold VT; omega) (av1 (vt_3 (by omega)) (av1 (by unfold VT; omega) av0))), av1 (by omega) (av1 (by omega) (av1 (by omega) (av1 (by omega) (av1 (by omega) (av1 (by omega) (av1 (by omega) (av1 (by omega) av0)))))))⟩
  rw [if_neg c0, if_neg c0]
  by_cases c1 : en_op x = 1
  · rw [if_pos c1, if_pos c1]
    obtain ⟨c, k1, k2, -⟩ := f4 (Or.inr (Or.inl c1))
    obtain ⟨b1, b2, b3⟩ := f8 (Or.inl c1)
    obtain ⟨e1, e2⟩ := vt_x (b1.imp id (fun ⟨b, y1, y2, _⟩ => ⟨b, y1, y2⟩)) b2 b3
    rw [k2, ix_nI (by omega)]
    exact ⟨avA (avA (av1 (vt_3 (by omega)) (av1 (by unfold VT; omega) av0)) e1) (av1 (by unfold VT; omega) av0), avA (avA (av1 (by omega) (av1 (by omega) (av1 (by omega) av0))) e2) (av1 (by omega) (av1 (by omega) av0))⟩
  rw [if_neg c1, if_neg c1]
  by_cases c2 : en_op x = 2
  · rw [if_pos c2, if_pos c2]
    obtain ⟨l, l1, l2, -⟩ := f6 (Or.inr (Or.inl c2))
    obtain ⟨c, k1, k2, -⟩ := f4 (Or.inr (Or.inr c2))
    obtain ⟨b, b1, b2, -⟩ := f7 c2
    rw [l2, k2, b2, ix_nI (by omega), ix_nI (by omega), ix_nI (by omega)]
    exact ⟨av1 (vt_4 (by omega)) (av1 (by unfold VT; omega) (av1 (vt_4 (by omega)) (av1 (by unfold VT; omega) (av1 (vt_3 (by omega)) (av1 (by unfold VT; omega) av0))))), av1 (by omega) (av1 (by omega) (av1 (by omega) (av1 (by omega) (av1 (by omega) (av1 (by omega) (av1 (by omega) (av1 (by omega) (av1 (by omega) (av1 (by omega) (av1 (by omega) av0))))))))))⟩
  rw [if_neg c2, if_neg c2]
  by_cases c3 : en_op x = 3
  · rw [if_pos c3, if_pos c3]
    obtain ⟨m, m1, m2⟩ := f5 (Or.inl c3)
    rw [m2, ix_nI (by omega)]
    exact ⟨av1 (by unfold VT; omega) (av1 (vt_5 (by omega)) (av1 (by unfold VT; omega) av0)), avA (wb_256 6 (by omega)) (av1 (by omega) (av1 (by omega) (av1 (by omega) (av1 (by omega) (av1 (by omega) av0)))))⟩
  rw [if_neg c3, if_neg c3]
  by_cases c4 : en_op x = 4
  · rw [if_pos c4, if_pos c4]
    obtain ⟨m, m1, m2⟩ := f5 (Or.inr c4)
    rw [m2, ix_nI (by omega)]
    exact ⟨av1 (by unfold VT; omega) (av1 (vt_5 (by omega)) (av1 (by unfold VT; omega) av0)), avA (wb_256 7 (by omega)) (av1 (by omega) (av1 (by omega) (av1 (by omega) (av1 (by omega) (av1 (by omega) av0)))))⟩
  rw [if_neg c4, if_neg c4]
  by_cases c5 : en_op x = 5
  · rw [if_pos c5, if_pos c5]
    exact ⟨av1 (by unfold VT; omega) (av1 (by unfold VT; omega) av0), avA (wb_256 8 (by omega)) (av1 (by omega) (av1 (by omega) av0))⟩
  rw [if_neg c5, if_neg c5]
  by_cases c6 : en_op x = 6
  · rw [if_pos c6, if_pos c6]
    obtain ⟨l, l1, l2, -⟩ := f6 (Or.inr (Or.inr (Or.inl c6)))
    obtain ⟨b1, b2, b3⟩ := f8 (Or.inr c6)
    obtain ⟨e1, e2⟩ := vt_x (b1.imp id (fun ⟨b, y1, y2, _⟩ => ⟨b, y1, y2⟩)) b2 b3
    rw [l2, ix_nI (by omega)]
    exact ⟨avA (avA (av1 (vt_4 (by omega)) (av1 (by unfold VT; omega) av0)) e1) (av1 (by unfold VT; omega) av0), avA (avA (av1 (by omega) (av1 (by omega) (av1 (by omega) (av1 (by omega) av0)))) e2) (av1 (by omega) (av1 (by omega) av0))⟩
  rw [if_neg c6, if_neg c6]
  by_cases c7 : en_op x = 7
  · rw [if_pos c7, if_pos c7]
    obtain ⟨l, l1, l2, -⟩ := f6 (Or.inr (Or.inr (Or.inr c7)))
    obtain ⟨k, k1, k2⟩ := f9 c7
    rw [l2, k2, ix_nI (by omega), ix_nI (by omega)]
    exact ⟨av1 (by unfold VT; omega) (av1 (vt_4 (by omega)) (av1 (by unfold VT; omega) (av1 (vt_6 (by omega)) (av1 (by unfold VT; omega) av0)))), avA (wb_256 12 (by omega)) (av1 (by omega) (av1 (by omega) (av1 (by omega) (av1 (by omega) (av1 (by omega) (av1 (by omega) (av1 (by omega) (av1 (by omega) (av1 (by omega) (av1 (by omega) (av1 (by omega) av0)))))))))))⟩
  rw [if_neg c7, if_neg c7]
  by_cases c8 : en_op x = 8
  · rw [if_pos c8, if_pos c8]
    exact ⟨av1 (by unfold VT; omega) (av1 (by unfold VT; omega) (av1 (by unfold VT; omega) av0)), avA (wb_256 14 (by omega)) (av1 (by omega) av0)⟩
  rw [if_neg c8, if_neg c8]
  exact ⟨av1 (by unfold VT; omega) av0, av1 (by omega) (av1 (by omega) av0)⟩
theorem vt_rn {d : PD} (P : PDk d) : ∀ t, t ∈ RN (pS d) (pE d) → VT t := fun t ht => by
  unfold RN at ht
  obtain ⟨e, -, e2⟩ := List.mem_flatMap.mp ht
  unfold rnf at e2
  rcases List.mem_append.mp e2 with z | z
  · by_cases c : e ∈ pS d
    · rw [if_pos c] at z
      exact av1 (P := VT) (by unfold VT; omega) (av1 (by unfold VT; omega) av0) t z
    · rw [if_neg c] at z; cases z
  · by_cases c : e < (pE d).length
    · rw [if_pos c] at z
      exact (vt_e (P.1.1.1 e c).2).1 t z
    · rw [if_neg c] at z; cases z
theorem pb_256 {d : PD} (P : PDk d) : ∀ t, t ∈ pbt d → t < 256 := by
  have dc : ∀ k, k < 3 → ∀ t, t ∈ dcb (pK d) k → t < 256 := fun k hk t ht => by
    unfold dcb at ht
    by_cases c : dca (pK d) k = true
    · rw [if_pos c] at ht; cases ht
    · rw [if_neg c] at ht
      refine avA (avA (wb_256 (k + 2) (by omega)) (fun t ht => ?_)) (av1 (by omega) (av1 (by omega) av0)) t ht
      unfold dcL at ht
      obtain ⟨i, i1, i2⟩ := List.mem_flatMap.mp ht
      have i1 := List.mem_range.mp i1
      by_cases q : pK d (6 - 6 + i) = nI k
      · rw [if_pos q] at i2
        exact av1 (P := fun t => t < 256) (by omega) (av1 (by omega) av0) t i2
      · rw [if_neg q] at i2; cases i2
  unfold pbt
  refine avA (avA (avA (dc 0 (by omega)) (dc 1 (by omega))) (dc 2 (by omega))) (fun t ht => ?_)
  unfold bdy at ht
  obtain ⟨e, e1, e2⟩ := List.mem_flatMap.mp ht
  have e1 := List.mem_range.mp e1
  unfold bfE at e2
  rcases List.mem_append.mp e2 with z | z
  · by_cases c : e ∈ pS d
    · rw [if_pos c] at z
      exact avA (wb_256 5 (by omega)) (av1 (P := fun t => t < 256) (by omega) (av1 (by omega) (av1 (by omega) av0))) t z
    · rw [if_neg c] at z; cases z
  · exact (vt_e (P.1.1.1 e e1).2).2 t z
theorem dcL_e {kd : Nat → Int32} {k : Nat} : ∀ n, n ≤ 6 → (dcL kd k n = [] ↔ ∀ c, 6 - n ≤ c → c < 6 → ¬ kd c = nI k) := by
  intro n
  induction n with
  | zero => intro _; exact ⟨fun _ c h1 h2 => by omega, fun _ => rfl⟩
  | succ n ih =>
    intro hn
    rw [dcL_s (by omega)]
    have ih' := ih (by omega)
    by_cases q : kd (6 - (n + 1)) = nI k
    · rw [if_pos q]
      exact ⟨fun z => (by cases z), fun z => absurd q (z _ (Nat.le_refl _) (by omega))⟩
    · rw [if_neg q, List.nil_append, ih']
      exact ⟨fun z c h1 h2 => by
        by_cases e : c = 6 - (n + 1)
        · rw [e]; exact q
        · exact z c (by omega) h2, fun z c h1 h2 => z c (by omega) h2⟩
section
variable {h H H2 : AH} {g : SG} {m p : Nat} {d : PD} {A : Nat → Nat → Int32} {a1 : Int32} {W : List Nat}
theorem rof2 {k : Nat} (Z : RZ H) (hp : p < 8) (h24 : A 102 24 = nI p) (hk : k < 900) : f_X11_of 102 (nI k) (sA H A) = some (A 106 (900 * p + k), sA H A) := by
  unfold f_X11_of b_X11_of_0
  rw [rz_r (f := 9) (r := 106) (l := 7200) (sA_rz Z) (by decide), Option.bind_some, v_g Z, Option.bind_some, h24, mu, nI_add, rz_l (f := 9) (r := 106) (l := 7200) (sA_rz Z) (by decide) (by omega) (by omega), Option.bind_some]
  rfl
/-- a declaration of the reference -/
def db (kd : Nat → Int32) (k : Nat) (s : Bool) (j : Nat) : List Nat := if s = true ∨ dcL kd k j ≠ [] then (if s = true then [] else wbt (k + 2)) ++ (dcL kd k j ++ [59, 10]) else []
theorem db_6 {kd : Nat → Int32} {k : Nat} : db kd k false 6 = dcb kd k := by
  unfold db dcb
  by_cases c : dca kd k = true
  · rw [if_pos c, if_neg]
    rintro (z | z)
    · cases z
    · exact z ((dcL_e 6 (Nat.le_refl _)).mpr (fun c' _ h2 => dca_i.mp c c' h2))
  · rw [if_neg c, if_pos (Or.inr (fun z => c (dca_i.mpr (fun c' h2 => (dcL_e 6 (Nat.le_refl _)).mp z c' (by omega) h2)))), if_neg Bool.false_ne_true, List.append_assoc]
theorem r_27 {kk : Nat} {r17 : Nat → Int32 → AH → Option (Int32 × AH)} (R : GR H g) (hp : p < 8) (hd : sD g p = some d) (h24 : hp_i H 102 24 = nI p) (hk : kk < 3) : ∀ j fu A W (s : Bool), j ≤ 6 → j < fu → RS (hp_i H) A W → (W ++ db (pK d) kk s j).length ≤ 2400 → ∃ A', l_X11_print_27 r17 fu 102 (nI kk) (if s = true then 1 else 0) (nI (6 - j)) (sA H A) = r17 102 (nI (kk + 1)) (sA H A') ∧ RS (hp_i H) A' (W ++ db (pK d) kk s j) := by
  have Z := R.1
  have P := (r_dd R hp hd).1.2
  have c104 : ∀ A, b_X11_print_104 r17 102 (nI kk) (sA H A) = r17 102 (nI (kk + 1)) (sA H A) := fun A => by
    unfold b_X11_print_104
    rw [da]
  intro j
  induction j with
  | zero =>
    intro fu A W s _ hf S hl
    obtain ⟨fu, rfl⟩ : ∃ f', fu = f' + 1 := ⟨fu - 1, by omega⟩
    have st : l_X11_print_27 r17 (fu + 1) 102 (nI kk) (if s = true then 1 else 0) (nI (6 - 0)) (sA H A) = if (if s = true then (1 : Int32) else 0) = 0 then b_X11_print_89 r17 102 (nI kk) (sA H A) else b_X11_print_92 r17 102 (nI kk) (sA H A) := by
      show b_X11_print_27 r17 (l_X11_print_27 r17 fu) 102 (nI kk) _ (nI 6) (sA H A) = _
      unfold b_X11_print_27
      rw [if_pos (show (6 : Int32) ≤ nI 6 by decide)]
      rfl
    rw [st]
    cases s
    · have e : db (pK d) kk false 0 = [] := by
        unfold db
        rw [if_neg]
        rintro (z | z)
        · cases z
        · exact z rfl
      rw [e, List.append_nil]
      exact ⟨A, by rw [if_neg Bool.false_ne_true, if_pos rfl]; exact c104 A, S⟩
    · have e : db (pK d) kk true 0 = [59, 10] := by
        unfold db
        rw [if_pos (Or.inl rfl), if_pos rfl]; rfl
      rw [e] at hl ⊢
      obtain ⟨A1, x1, x2⟩ := rr_c (rr_say (c := 59) Z) (rr_say (c := 10) Z) A W S hl
      have x1 : (f_X11_say 102 (nI 59) (sA H A)).bind (f_X11_say 102 (nI 10)) = some (sA H A1) := x1
      refine ⟨A1, ?_, x2⟩
      obtain ⟨A0, y1, y2⟩ := rr_say (c := 59) Z A W S (by rw [List.length_append] at hl ⊢; show _ + 1 ≤ _; have : ([59, 10] : List Nat).length = 2 := rfl; omega)
      rw [y1, Option.bind_some] at x1
      rw [if_pos rfl, if_neg n10]
      unfold b_X11_print_92
      rw [v_v Z, Option.bind_some, show f_X11_say 102 (59 : Int32) (sA H A) = _ from y1, Option.bind_some, v_v Z, Option.bind_some, show f_X11_say 102 (10 : Int32) (sA H A0) = _ from x1, Option.bind_some]
      exact c104 A1
  | succ j ih =>
    intro fu A W s hj hf S hl
    obtain ⟨fu, rfl⟩ : ∃ f', fu = f' + 1 := ⟨fu - 1, by omega⟩
    have ih' := fun A W s => ih fu A W s (by omega) (by omega)
    have ej : 6 - j = 6 - (j + 1) + 1 := by omega
    rw [ej] at ih'
    have ds := dcL_s (kd := pK d) (k := kk) (n := j) (by omega)
    generalize hi : 6 - (j + 1) = i at *
    have oi : f_X11_of 102 ((0 : Int32) + nI i) (sA H A) = some (pK d i, sA H A) := by
      rw [ad, Nat.zero_add, rof2 Z hp ((S.2.2 _ _ (by omega) (by omega)).trans h24) (by omega), S.2.2 _ _ (by omega) (by omega), P i (by omega)]
    have st : l_X11_print_27 r17 (fu + 1) 102 (nI kk) (if s = true then 1 else 0) (nI i) (sA H A) = if pK d i = nI kk then b_X11_print_49 r17 (l_X11_print_27 r17 fu) 102 (nI kk) (if s = true then 1 else 0) (nI i) (sA H A) else l_X11_print_27 r17 fu 102 (nI kk) (if s = true then 1 else 0) (nI (i + 1)) (sA H A) := by
      show b_X11_print_27 r17 (l_X11_print_27 r17 fu) 102 (nI kk) _ (nI i) (sA H A) = _
      unfold b_X11_print_27
      rw [if_neg (show ¬ (6 : Int32) ≤ nI i from nI_ge (b := 6) (by omega) (by omega))]
      unfold b_X11_print_34 b_X11_print_46 b_X11_print_79
      rw [v_v Z, Option.bind_some, oi, Option.bind_some, da]
    rw [st]
    by_cases c : pK d i = nI kk
    · rw [if_pos c] at ds ⊢
      have e1 : db (pK d) kk s (j + 1) = (if s = true then [] else wbt (kk + 2)) ++ ([32, 117 + i] ++ db (pK d) kk true j) := by
        unfold db
        rw [ds, if_pos (Or.inr (fun z => by cases z)), if_pos (Or.inl rfl), if_pos rfl, List.append_assoc]
        rfl
      rw [e1] at hl ⊢
      -- the two bytes and the rest
      have w62 : ∀ A W, RS (hp_i H) A W → (W ++ ([32, 117 + i] ++ db (pK d) kk true j)).length ≤ 2400 → ∃ A', b_X11_print_62 r17 (l_X11_print_27 r17 fu) 102 (nI kk) (nI i) (sA H A) = r17 102 (nI (kk + 1)) (sA H A') ∧ RS (hp_i H) A' (W ++ ([32, 117 + i] ++ db (pK d) kk true j)) := fun A W S hl => by
        have l2 : (W ++ [32]).length = W.length + 1 := by rw [List.length_append]; rfl
        rw [List.length_append, List.length_append] at hl
        have l3 : ([32, 117 + i] : List Nat).length = 2 := rfl
        obtain ⟨B1, y1, y2⟩ := rr_say (c := 32) Z A W S (by omega)
        obtain ⟨B2, z1, z2⟩ := rr_say (c := 117 + i) Z B1 _ y2 (by rw [List.length_append, l2]; show _ + 1 + 1 ≤ _; omega)
        obtain ⟨B3, u1, u2'⟩ := ih' B2 _ true z2 (by rw [List.length_append, List.length_append, l2]; show _ + 1 + 1 + _ ≤ _; omega)
        refine ⟨B3, ?_, by rw [List.append_assoc, List.append_assoc] at u2'; exact u2'⟩
        unfold b_X11_print_62 b_X11_print_79
        rw [v_v Z, Option.bind_some, show f_X11_say 102 (32 : Int32) (sA H A) = _ from y1, Option.bind_some, v_v Z, Option.bind_some, ad, z1, Option.bind_some, da]
        exact u1
      cases s
      · rw [if_neg Bool.false_ne_true] at hl ⊢
        have vt : VT (200 + kk) := by unfold VT; omega
        have tw : ∀ kk, kk < 3 → tkb (200 + kk) = wbt (kk + 2) := by decide
        have lw := List.length_append (as := wbt (kk + 2)) (bs := [32, 117 + i] ++ db (pK d) kk true j)
        rw [List.length_append] at hl
        obtain ⟨B1, y1, y2⟩ := rr_tk Z vt A W S (by rw [tw kk hk, List.length_append]; omega)
        rw [tw kk hk] at y2
        obtain ⟨B2, z1, z2⟩ := w62 B1 _ y2 (by rw [List.length_append, List.length_append]; omega)
        refine ⟨B2, ?_, by rw [List.append_assoc] at z2; exact z2⟩
        unfold b_X11_print_49
        rw [if_pos rfl]
        unfold b_X11_print_53
        rw [v_v Z, Option.bind_some, ad, y1, Option.bind_some]
        exact z1
      · rw [if_pos rfl, List.nil_append] at hl
        obtain ⟨B2, z1, z2⟩ := w62 A W S hl
        exact ⟨B2, (show b_X11_print_49 r17 (l_X11_print_27 r17 fu) 102 (nI kk) 1 (nI i) (sA H A) = _ from (if_neg n10).trans z1), z2⟩
    · rw [if_neg c] at ds ⊢
      have e1 : db (pK d) kk s (j + 1) = db (pK d) kk s j := by
        unfold db
        rw [ds, List.nil_append]
      rw [e1] at hl ⊢
      exact ih' A W s S hl
theorem enk_p {t nx : Nat} (h : t = 700 ∨ t = 705 ∨ (t = 706 ∧ nx ≠ 208)) : enk t nx = true := decide_eq_true h
theorem hd_dr {T : List Nat} {k : Nat} : (T.drop k).headD 0 = T.getD k 0 := by
  by_cases c : k < T.length
  · rw [List.drop_eq_getElem_cons c, List.getD_eq_getElem?_getD, List.getElem?_eq_getElem c]; rfl
  · rw [List.drop_eq_nil_of_le (by omega), List.getD_eq_getElem?_getD, List.getElem?_eq_none (by omega)]; rfl
theorem r_114 {T : List Nat} (R : GR H g) (hp : p < 8) (hd : sD g p = some d) (h24 : hp_i H 102 24 = nI p) (eT : RN (pS d) (pE d) = T) : ∀ j fu A W (bg : Bool), j ≤ T.length → j < fu → (bg = false → j < T.length) → RS (hp_i H) A W → (W ++ rbl (T.getD (T.length - j - 1) 0) bg (T.drop (T.length - j)) 0).length ≤ 2400 →
    ∃ A', l_X11_print_114 fu 102 (if bg = true then 1 else 0) (nI (T.length - j)) (sA H A) = some (nI (W ++ rbl (T.getD (T.length - j - 1) 0) bg (T.drop (T.length - j)) 0).length, sA H A') ∧ RS (hp_i H) A' (W ++ rbl (T.getD (T.length - j - 1) 0) bg (T.drop (T.length - j)) 0) := by
  have Z := R.1
  obtain ⟨RP, -, PK⟩ := r_dd R hp hd
  obtain ⟨⟨-, -, -, -, -, -, f12⟩, -, -, -, fT⟩ := RP.1
  have hT : T.length ≤ 480 := by rw [← eT]; exact PK.1.2.2.1.2.2.2.2.2
  rw [eT] at f12 fT
  have vt : ∀ k, k < T.length → VT (T.getD k 0) := fun k hk => vt_rn PK _ (by
    rw [eT, List.getD_eq_getElem?_getD, List.getElem?_eq_getElem hk]
    exact List.getElem_mem _)
  have v8 : ∀ k, k < T.length → T.getD k 0 < 800 := fun k hk => by have := vt k hk; unfold VT at this; omega
  have o12 : ∀ A W, RS (hp_i H) A W → f_X11_of 102 (12 : Int32) (sA H A) = some (nI T.length, sA H A) := fun A W S => by
    have := rof2 (k := 12) Z hp ((S.2.2 _ _ (by omega) (by omega)).trans h24) (by omega)
    rw [S.2.2 _ _ (by omega) (by omega)] at this
    exact this.trans (congrArg (fun z => some (z, sA H A)) f12)
  have oT : ∀ A W k, RS (hp_i H) A W → k < T.length → f_X11_of 102 (nI (400 + k)) (sA H A) = some (nI (T.getD k 0), sA H A) := fun A W k S hk => by
    have := rof2 (k := 400 + k) Z hp ((S.2.2 _ _ (by omega) (by omega)).trans h24) (by omega)
    rw [S.2.2 _ _ (by omega) (by omega)] at this
    exact this.trans (congrArg (fun z => some (z, sA H A)) (fT k hk))
  intro j
  induction j with
  | zero =>
    intro fu A W bg _ hf _ S hl
    obtain ⟨fu, rfl⟩ : ∃ f', fu = f' + 1 := ⟨fu - 1, by omega⟩
    have e : T.drop (T.length - 0) = [] := List.drop_eq_nil_of_le (by omega)
    have e0 : rbl (T.getD (T.length - 0 - 1) 0) bg (T.drop (T.length - 0)) 0 = [] := by rw [e]; rfl
    rw [e0, List.append_nil]
    refine ⟨A, ?_, S⟩
    show b_X11_print_114 (l_X11_print_114 fu) 102 _ (nI T.length) (sA H A) = _
    unfold b_X11_print_114
    rw [v_v Z, Option.bind_some, o12 A W S, Option.bind_some, if_pos (nI_le (Nat.le_refl _) (by omega))]
    unfold b_X11_print_264
    rw [v_g Z, Option.bind_some, S.1]
  | succ j ih =>
    intro fu A W bg hj hf hb S hl
    obtain ⟨fu, rfl⟩ : ∃ f', fu = f' + 1 := ⟨fu - 1, by omega⟩
    have ih' := fun A W bg => ih fu A W bg (by omega) (by omega)
    have ej : T.length - j = T.length - (j + 1) + 1 := by omega
    rw [ej] at ih'
    have hb : bg = false → 0 < T.length - (j + 1) := fun z => by have := hb z; omega
    generalize hi : T.length - (j + 1) = k at *
    have hk : k < T.length := by omega
    rw [Nat.add_sub_cancel] at ih'
    have tj : j < T.length := by omega
    have dr : T.drop k = T.getD k 0 :: T.drop (k + 1) := by
      rw [List.drop_eq_getElem_cons hk, List.getD_eq_getElem?_getD, List.getElem?_eq_getElem hk]; rfl
    rw [dr] at hl ⊢
    rw [rb_g, hd_dr] at hl ⊢
    have t8 := v8 k hk
    have tq : ∀ v, v < 800 → (nI (T.getD k 0) = nI v ↔ T.getD k 0 = v) := fun v hv => nI_eq (by omega) (by omega)
    have t700 : nI (T.getD k 0) = (700 : Int32) ↔ T.getD k 0 = 700 := tq 700 (by omega)
    have t703 : nI (T.getD k 0) = (703 : Int32) ↔ T.getD k 0 = 703 := tq 703 (by omega)
    have t705 : nI (T.getD k 0) = (705 : Int32) ↔ T.getD k 0 = 705 := tq 705 (by omega)
    have t706 : nI (T.getD k 0) = (706 : Int32) ↔ T.getD k 0 = 706 := tq 706 (by omega)
    generalize ht : T.getD k 0 = t at *
    generalize hpv : T.getD (k - 1) 0 = pv at *
    -- what follows the token
    have w178 : ∀ A W, RS (hp_i H) A W → (W ++ (tkb t ++ (if enk t (T.getD (k + 1) 0) = true then [10] else []) ++ rbl t (enk t (T.getD (k + 1) 0)) (T.drop (k + 1)) 0)).length ≤ 2400 → ∃ A', b_X11_print_178 (l_X11_print_114 fu) 102 (nI k) (nI t) (sA H A) = some (nI (W ++ (tkb t ++ (if enk t (T.getD (k + 1) 0) = true then [10] else []) ++ rbl t (enk t (T.getD (k + 1) 0)) (T.drop (k + 1)) 0)).length, sA H A') ∧ RS (hp_i H) A' (W ++ (tkb t ++ (if enk t (T.getD (k + 1) 0) = true then [10] else []) ++ rbl t (enk t (T.getD (k + 1) 0)) (T.drop (k + 1)) 0)) := fun A W S hl => by
      have vtk : VT t := by rw [← ht]; exact vt k hk
      rw [List.append_assoc, ← List.append_assoc] at hl ⊢
      obtain ⟨A1, x1, x2⟩ := rr_tk Z vtk A W S (by rw [List.length_append] at hl; omega)
      have e0 : b_X11_print_178 (l_X11_print_114 fu) 102 (nI k) (nI t) (sA H A) = if nI t = (700 : Int32) then b_X11_print_237 (l_X11_print_114 fu) 102 (nI k) (sA H A1) else b_X11_print_192 (l_X11_print_114 fu) 102 (nI k) (nI t) (sA H A1) := by
        unfold b_X11_print_178
        rw [v_v Z, Option.bind_some, x1, Option.bind_some]
      have e237 : b_X11_print_237 (l_X11_print_114 fu) 102 (nI k) (sA H A1) = (f_X11_say 102 (10 : Int32) (sA H A1)).bind fun h2 => l_X11_print_114 fu 102 1 (nI (k + 1)) h2 := by
        unfold b_X11_print_237 b_X11_print_242
        rw [if_neg n10]
        unfold b_X11_print_249 b_X11_print_255
        rw [v_v Z, Option.bind_some, da]
      have e241 : b_X11_print_241 (l_X11_print_114 fu) 102 (nI k) (sA H A1) = l_X11_print_114 fu 102 0 (nI (k + 1)) (sA H A1) := by
        unfold b_X11_print_241 b_X11_print_242
        rw [if_pos rfl]
        unfold b_X11_print_255
        rw [da]
      have e2 : b_X11_print_178 (l_X11_print_114 fu) 102 (nI k) (nI t) (sA H A) = if enk t (T.getD (k + 1) 0) = true then b_X11_print_237 (l_X11_print_114 fu) 102 (nI k) (sA H A1) else b_X11_print_241 (l_X11_print_114 fu) 102 (nI k) (sA H A1) := by
        rw [e0]
        by_cases c0 : t = 700
        · rw [if_pos (t700.mpr c0), if_pos (enk_p (Or.inl c0))]
        · rw [if_neg (fun z => c0 (t700.mp z))]
          unfold b_X11_print_192
          by_cases c5 : t = 705
          · rw [if_pos (t705.mpr c5), if_pos (enk_p (Or.inr (Or.inl c5)))]
          · rw [if_neg (fun z => c5 (t705.mp z))]
            unfold b_X11_print_200
            by_cases c6 : t = 706
            · rw [if_pos (t706.mpr c6)]
              unfold b_X11_print_208
              rw [v_v Z, Option.bind_some, o12 A1 _ x2, Option.bind_some, da]
              by_cases cn' : k + 1 = T.length
              · have n0 : T.getD (k + 1) 0 = 0 := by rw [List.getD_eq_getElem?_getD, List.getElem?_eq_none (by omega)]; rfl
                rw [if_pos (by rw [cn']), if_pos (enk_p (Or.inr (Or.inr ⟨c6, by rw [n0]; omega⟩)))]
              · rw [if_neg (fun z => cn' ((nI_eq (by omega) (by omega)).mp z))]
                unfold b_X11_print_220
                have k1 : k + 1 < T.length := by omega
                have v1 := v8 (k + 1) k1
                rw [v_v Z, Option.bind_some, ad, da, show 400 + k + 1 = 400 + (k + 1) by omega, oT A1 _ (k + 1) x2 k1, Option.bind_some]
                by_cases c8 : T.getD (k + 1) 0 = 208
                · rw [if_pos (show nI (T.getD (k + 1) 0) = (208 : Int32) by rw [c8]; rfl), if_neg]
                  intro z
                  rcases of_decide_eq_true z with y | y | y
                  · exact c0 y
                  · exact c5 y
                  · exact y.2 c8
                · rw [if_neg (show ¬ nI (T.getD (k + 1) 0) = (208 : Int32) from fun z => c8 ((nI_eq (b := 208) (by omega) (by omega)).mp z)), if_pos (enk_p (Or.inr (Or.inr ⟨c6, c8⟩)))]
            · rw [if_neg (fun z => c6 (t706.mp z)), if_neg]
              intro z
              rcases of_decide_eq_true z with y | y | y
              · exact c0 y
              · exact c5 y
              · exact c6 y.1
      rw [e2]
      generalize enk t (T.getD (k + 1) 0) = q at *
      cases q
      · rw [if_neg Bool.false_ne_true] at hl ⊢
        rw [if_neg Bool.false_ne_true, List.nil_append]
        rw [List.nil_append] at hl
        obtain ⟨A2, y1, y2⟩ := ih' A1 (W ++ tkb t) false (fun _ => tj) x2 hl
        exact ⟨A2, e241.trans y1, y2⟩
      · rw [if_pos rfl] at hl ⊢
        rw [if_pos rfl]
        rw [← List.append_assoc] at hl ⊢
        obtain ⟨A2, y1, y2⟩ := rr_say (c := 10) Z A1 (W ++ tkb t) x2 (by rw [List.length_append] at hl; omega)
        obtain ⟨A3, z1, z2⟩ := ih' A2 (W ++ tkb t ++ [10]) true (fun z => by cases z) y2 hl
        exact ⟨A3, by rw [e237, show f_X11_say 102 (10 : Int32) (sA H A1) = _ from y1, Option.bind_some]; exact z1, z2⟩
    have st : l_X11_print_114 (fu + 1) 102 (if bg = true then 1 else 0) (nI k) (sA H A) = if (if bg = true then (1 : Int32) else 0) = 0 then b_X11_print_139 (l_X11_print_114 fu) 102 (nI k) (nI t) (sA H A) else b_X11_print_178 (l_X11_print_114 fu) 102 (nI k) (nI t) (sA H A) := by
      show b_X11_print_114 (l_X11_print_114 fu) 102 _ (nI k) (sA H A) = _
      unfold b_X11_print_114
      rw [v_v Z, Option.bind_some, o12 A W S, Option.bind_some, if_neg (nI_ge hk (by omega))]
      unfold b_X11_print_124
      rw [v_v Z, Option.bind_some, ad, oT A W k S hk, Option.bind_some, ht]
    rw [st]
    have eqQ : ∀ g' I R : List Nat, g' ++ tkb t ++ I ++ R = g' ++ (tkb t ++ I ++ R) := fun g' I R => by simp only [List.append_assoc]
    rw [eqQ] at hl ⊢
    generalize tkb t ++ (if enk t (T.getD (k + 1) 0) = true then [10] else []) ++ rbl t (enk t (T.getD (k + 1) 0)) (T.drop (k + 1)) 0 = Q at *
    cases bg
    · rw [if_neg Bool.false_ne_true, if_pos rfl]
      have k0 := hb rfl
      have skip : (t = 700 ∨ t = 703 ∨ pv = 703) → b_X11_print_139 (l_X11_print_114 fu) 102 (nI k) (nI t) (sA H A) = b_X11_print_178 (l_X11_print_114 fu) 102 (nI k) (nI t) (sA H A) → ∃ A', b_X11_print_139 (l_X11_print_114 fu) 102 (nI k) (nI t) (sA H A) = some (nI (W ++ (gpk pv false t ++ Q)).length, sA H A') ∧ RS (hp_i H) A' (W ++ (gpk pv false t ++ Q)) := fun c e => by
        rw [gk_0 c, List.nil_append] at hl ⊢
        rw [e]
        exact w178 A W S hl
      by_cases c0 : t = 700
      · refine skip (Or.inl c0) ?_
        unfold b_X11_print_139
        rw [if_pos (t700.mpr c0)]
      · by_cases c3 : t = 703
        · refine skip (Or.inr (Or.inl c3)) ?_
          unfold b_X11_print_139 b_X11_print_147
          rw [if_neg (fun z => c0 (t700.mp z)), if_pos (t703.mpr c3)]
        · have e155 : b_X11_print_139 (l_X11_print_114 fu) 102 (nI k) (nI t) (sA H A) = if nI pv = (703 : Int32) then b_X11_print_178 (l_X11_print_114 fu) 102 (nI k) (nI t) (sA H A) else b_X11_print_172 (l_X11_print_114 fu) 102 (nI k) (nI t) (sA H A) := by
            unfold b_X11_print_139 b_X11_print_147
            rw [if_neg (fun z => c0 (t700.mp z)), if_neg (fun z => c3 (t703.mp z))]
            unfold b_X11_print_155
            have e1 : (400 : Int32) + nI k - (1 : Int32) = nI (400 + (k - 1)) := by
              rw [ad, show 400 + k = (400 + (k - 1)) + 1 by omega, ← nI_1, Int32.add_sub_cancel]
            rw [v_v Z, Option.bind_some, e1, oT A W (k - 1) S (by omega), Option.bind_some, hpv]
          have pv8 : pv < 800 := by rw [← hpv]; exact v8 _ (by omega)
          by_cases cp : pv = 703
          · refine skip (Or.inr (Or.inr cp)) ?_
            rw [e155, if_pos (show nI pv = (703 : Int32) by rw [cp]; rfl)]
          · rw [gk_f (by omega)] at hl ⊢
            rw [← List.append_assoc] at hl ⊢
            obtain ⟨A1, x1, x2⟩ := rr_say (c := 32) Z A W S (by rw [List.length_append] at hl; omega)
            obtain ⟨A2, y1, y2⟩ := w178 A1 (W ++ [32]) x2 hl
            refine ⟨A2, ?_, y2⟩
            rw [e155, if_neg (show ¬ nI pv = (703 : Int32) from fun z => cp ((nI_eq (b := 703) (by omega) (by omega)).mp z))]
            unfold b_X11_print_172
            rw [v_v Z, Option.bind_some, show f_X11_say 102 (32 : Int32) (sA H A) = _ from x1, Option.bind_some]
            exact y1
    · rw [gk_t, List.nil_append] at hl ⊢
      obtain ⟨A1, x1, x2⟩ := w178 A W S hl
      exact ⟨A1, (if_neg n10).trans x1, x2⟩
theorem s_print (G : GC h g m) (R : GR h g) : TSP Int32.toInt64 (f_L_print 64 a1 125) (f_X11_print 102 a1) h m := by
  refine tp_print G R (fun p d hp ha hd C h0 => ?_)
  have GHh := G.2.1
  have PK := C.2.2.2.2.1.2
  have g72 := GHh.2.2.2.2.1
  obtain ⟨A, x1, x2, x3⟩ := c_write (h := h) g72 C
  have b256 := pb_256 PK
  have gB : ∀ k, k < (pbt d).length → (pbt d).getD k 0 < 256 := fun k hk => b256 _ (by
    rw [List.getD_eq_getElem?_getD, List.getElem?_eq_getElem hk]
    exact List.getElem_mem _)
  have V : GVA A (sD g, stpe g, sn g, sfk g, sfp g, (fun k => (pbt d).getD k 0), (pbt d).length, swi g, sws g, swm g) := by
    obtain ⟨⟨a1, a2⟩, ⟨b1, b2⟩, -, dd, e1, e2⟩ := G.2.2.1
    have uu : ∀ r q, r ≠ 72 → r ≠ 73 → A r q = hp_i h r q := fun r q h1 h2 => x2.2.2.2 r q h2 (by omega)
    exact ⟨⟨(uu _ _ (by omega) (by omega)).trans a1, fun k hk => (uu _ _ (by omega) (by omega)).trans (a2 k hk)⟩, ⟨(uu _ _ (by omega) (by omega)).trans b1, (uu _ _ (by omega) (by omega)).trans b2⟩, ⟨x2.1, x2.2.2.1⟩, fun l hl => (uu _ _ (by omega) (by omega)).trans (dd l hl), (uu _ _ (by omega) (by omega)).trans e1, fun k hk => (uu _ _ (by omega) (by omega)).trans (e2 k hk)⟩
  obtain ⟨G', F'⟩ := gc_A (g' := (sD g, stpe g, sn g, sfk g, sfp g, (fun k => (pbt d).getD k 0), (pbt d).length, swi g, sws g, swm g)) G (fun r q h1 h2 h3 h4 h5 => x2.2.2.2 r q h5 (by omega)) ⟨G.1.1, ⟨x3, gB⟩, G.1.2.2⟩ V rfl
  refine ⟨nI (pbt d).length, sA h A, _, ?_, gc_up G', F', fun H2 R2 h24 t0 => ?_⟩
  · unfold f_X10_print b_X10_print_0
    rw [show g_r h 64 10 4 = some 72 from (if_pos GHh.1.1).trans (by rw [GHh.1.2.2.2.2.2.1]), Option.bind_some, ov64 GHh, Option.bind_some, c_pa GHh hp h0, Option.bind_some, show ok_v h 72 4 = some () from if_pos g72.1, Option.bind_some, x1, Option.bind_some]
  · have Z := R2.1
    have S0 : RS (hp_i H2) (up_2 (hp_i H2) 102 4 0) [] := ⟨u2s, fun k hk => absurd hk (Nat.not_lt_zero _), fun r k h1 h2 => u2 (by omega)⟩
    have l0 := dcb_l (kd := pK d) (k := 0) (by omega)
    have l1 := dcb_l (kd := pK d) (k := 1) (by omega)
    have l2 := dcb_l (kd := pK d) (k := 2) (by omega)
    obtain ⟨f, hf⟩ : ∃ f, fu_ = f + 1 + 1 + 1 + 1 := ⟨199996, rfl⟩
    have step : ∀ kk (r17 : Nat → Int32 → AH → Option (Int32 × AH)) H, kk < 3 → b_X11_print_17 r17 102 (nI kk) H = l_X11_print_27 r17 fu_ 102 (nI kk) 0 0 H := fun kk r17 H hk => by
      unfold b_X11_print_17
      rw [if_neg (show ¬ (3 : Int32) ≤ nI kk from nI_ge (b := 3) hk (by omega))]
      rfl
    obtain ⟨A1, y1, y2⟩ := r_27 (kk := 0) (r17 := l_X11_print_17 (f + 1 + 1 + 1)) R2 hp hd h24 (by omega) 6 fu_ _ _ false (Nat.le_refl _) (by unfold fu_; omega) S0 (by rw [db_6, List.nil_append]; omega)
    rw [db_6, List.nil_append] at y2
    obtain ⟨A2, z1, z2⟩ := r_27 (kk := 1) (r17 := l_X11_print_17 (f + 1 + 1)) R2 hp hd h24 (by omega) 6 fu_ _ _ false (Nat.le_refl _) (by unfold fu_; omega) y2 (by rw [db_6, List.length_append]; omega)
    rw [db_6] at z2
    obtain ⟨A3, w1, w2⟩ := r_27 (kk := 2) (r17 := l_X11_print_17 (f + 1)) R2 hp hd h24 (by omega) 6 fu_ _ _ false (Nat.le_refl _) (by unfold fu_; omega) z2 (by rw [db_6, List.length_append, List.length_append]; omega)
    rw [db_6] at w2
    have rn := rb_rn PK
    have lk := r_114 R2 hp hd h24 rfl (RN (pS d) (pE d)).length fu_ A3 _ true (Nat.le_refl _) (by have := PK.1.2.2.1.2.2.2.2.2; unfold fu_; omega) (fun z => by cases z) w2
    rw [Nat.sub_self, List.drop_zero, rb_t, rn] at lk
    obtain ⟨A4, q1, q2⟩ := lk (by show (pbt d).length ≤ 2400; omega)
    have q2 : RS (hp_i H2) A4 (pbt d) := q2
    refine ⟨sA H2 A4, ?_, gr_A R2 (fun r k hr => q2.2.2 r k (by omega) (by omega)) ?_ rfl, rl_A (fun r k hr => q2.2.2 r k (by omega) (by omega)), (q2.2.2 102 0 (by omega) (by omega)).trans t0⟩
    · unfold b_X11_print_10
      rw [show p_i H2 102 11 4 (0 : Int32) = some (sA H2 (up_2 (hp_i H2) 102 4 0)) from v_p (A := hp_i H2) Z, Option.bind_some, hf]
      show b_X11_print_17 (l_X11_print_17 (f + 1 + 1 + 1)) 102 (nI 0) _ = _
      rw [step 0 _ _ (by omega)]
      refine (show l_X11_print_27 (l_X11_print_17 (f + 1 + 1 + 1)) fu_ 102 (nI 0) 0 0 _ = _ from y1).trans ?_
      show b_X11_print_17 (l_X11_print_17 (f + 1 + 1)) 102 (nI 1) _ = _
      rw [step 1 _ _ (by omega)]
      refine (show l_X11_print_27 (l_X11_print_17 (f + 1 + 1)) fu_ 102 (nI 1) 0 0 _ = _ from z1).trans ?_
      show b_X11_print_17 (l_X11_print_17 (f + 1)) 102 (nI 2) _ = _
      rw [step 2 _ _ (by omega)]
      refine (show l_X11_print_27 (l_X11_print_17 (f + 1)) fu_ 102 (nI 2) 0 0 _ = _ from w1).trans ?_
      show b_X11_print_17 (l_X11_print_17 f) 102 (nI 3) _ = _
      unfold b_X11_print_17
      rw [if_pos (show (3 : Int32) ≤ nI 3 by decide)]
      exact q1
    · obtain ⟨-, ⟨⟨a1, a2⟩, ⟨b1, b2⟩, -, dd, ⟨e1, e2⟩, f, l, l1, l2⟩, -⟩ := R2
      have uu : ∀ r k, (r = 103 ∨ r = 112 ∨ r = 113) ∨ (r = 102 ∧ k ≠ 4) → A4 r k = hp_i H2 r k := fun r k hr => q2.2.2 r k (by omega) (by omega)
      exact ⟨⟨(uu _ _ (by omega)).trans a1, fun k hk => (uu _ _ (by omega)).trans (a2 k hk)⟩, ⟨(uu _ _ (by omega)).trans b1, (uu _ _ (by omega)).trans b2⟩, ⟨q2.1, q2.2.1⟩, fun l hl => (uu _ _ (by omega)).trans (dd l hl), ⟨(uu _ _ (by omega)).trans e1, fun k hk => (uu _ _ (by omega)).trans (e2 k hk)⟩, (uu _ _ (by omega)).trans f, l, l1, (uu _ _ (by omega)).trans l2⟩
end
