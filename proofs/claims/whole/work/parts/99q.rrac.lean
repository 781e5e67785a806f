/-! ===== the reference's races ===== -/
def rdF (F : Nat → Int32) (i : Nat) : Prop := F (18 + 4 * i + 1) = 0 ∨ F (18 + 4 * i + 1) = 2
def clF (F : Nat → Int32) (i j : Nat) : Prop := (rdF F i ∨ F (18 + 4 * i + 1) = 1) ∧ (rdF F j ∨ F (18 + 4 * j + 1) = 1) ∧ ¬ (rdF F i ∧ rdF F j) ∧ F (18 + 4 * i + 2) = F (18 + 4 * j + 2) ∧ ¬ F (18 + 4 * i) = F (18 + 4 * j) ∧ ¬ F (ix (F (18 + 4 * i + 2))) = 1
def raC (F : Nat → Int32) (a : AS) (i j : Nat) : Prop := clF F i j ∧ as_do a i ∧ as_do a j ∧ ¬ as_ea a i j ∧ ¬ as_ea a j i
section
variable {h h0 H : AH} {d s o li i j : Nat} {g F : Nat → Int32} {mo md : Int32} {K : Nat → Nat → Int32} {te ow rx : Nat → Nat} {na nt sz : Nat} {V : Nat → Bool} {a : AS} {p : List Nat} {r2 : Nat → Int32 → Int32 → AH → Option AH} {r16 : Nat → Int32 → Int32 → Int32 → AH → Option AH}
theorem x_isr (E : RE H s F o mo) (hi : i < 8) : (rdF F i ∧ f_X11_isRead 102 (nI i) H = some (1, H)) ∨ (¬ rdF F i ∧ f_X11_isRead 102 (nI i) H = some (0, H)) := by
  unfold f_X11_isRead b_X11_isRead_0
  rw [x_ok E, Option.bind_some, c4n, x_of E (by omega), Option.bind_some]
  by_cases c : F (18 + 4 * i + 1) = 0
  · rw [if_pos c]
    exact Or.inl ⟨Or.inl c, ok_z_1⟩
  · rw [if_neg c]
    unfold b_X11_isRead_15
    rw [x_ok E, Option.bind_some, c4n, x_of E (by omega), Option.bind_some]
    by_cases c2 : F (18 + 4 * i + 1) = 2
    · rw [if_pos c2]
      exact Or.inl ⟨Or.inr c2, ok_z_1⟩
    · rw [if_neg c2]
      exact Or.inr ⟨fun x => x.elim c c2, ok_z_0⟩
theorem rc_body (P : PR F K te ow rx na nt sz V mo) (E : RE H s F o mo) (hd : d < 20) (ho : o ≠ 1) (D : DR K te ow rx na nt sz o V (rowv H d) a p) (hi : i < na) (hj : j < na) :
    (raC F a i j ∧ b_X11_racing_26 r2 r16 102 (nI d) (nI i) (nI j) H = b_X11_racing_227 r2 r16 102 (nI d) (nI i) (nI j) H) ∨ (¬ raC F a i j ∧ b_X11_racing_26 r2 r16 102 (nI d) (nI i) (nI j) H = r16 102 (nI d) (nI i) (nI j + 1) H) := by
  have Z := P.1
  have hna := Z.1
  obtain ⟨m1, m2, m3, m4, m5⟩ := D.2.2.2.2.2.1 ho
  have no : b_X11_racing_144 r2 r16 102 (nI d) (nI i) (nI j) H = r16 102 (nI d) (nI i) (nI j + 1) H := by
    unfold b_X11_racing_144 b_X11_racing_145
    rw [if_pos rfl]
    rfl
  have b174 : clF F i j → (raC F a i j ∧ b_X11_racing_174 r2 r16 102 (nI d) (nI i) (nI j) H = b_X11_racing_227 r2 r16 102 (nI d) (nI i) (nI j) H) ∨ (¬ raC F a i j ∧ b_X11_racing_174 r2 r16 102 (nI d) (nI i) (nI j) H = r16 102 (nI d) (nI i) (nI j + 1) H) := fun hc => by
    unfold b_X11_racing_174
    rw [x_ok E, Option.bind_some, x_isd E hd, Option.bind_some]
    by_cases c1 : as_do a i
    · rw [if_pos ((mk8_bit m4 (by omega)).mpr c1), if_neg n10]
      unfold b_X11_racing_183
      rw [x_ok E, Option.bind_some, x_isd E hd, Option.bind_some]
      by_cases c2 : as_do a j
      · rw [if_pos ((mk8_bit m4 (by omega)).mpr c2), if_neg n10]
        unfold b_X11_racing_195
        rw [x_ok E, Option.bind_some, ad, x_st E hd (by omega), Option.bind_some]
        by_cases c3 : as_ea a i j
        · rw [if_neg (fun x => (mk8_bit0 (m2 i (by omega)) (by omega)).mp x c3)]
          exact Or.inr ⟨fun x => x.2.2.2.1 c3, rfl⟩
        · rw [if_pos ((mk8_bit0 (m2 i (by omega)) (by omega)).mpr c3)]
          unfold b_X11_racing_211
          rw [x_ok E, Option.bind_some, ad, x_st E hd (by omega), Option.bind_some]
          by_cases c4 : as_ea a j i
          · rw [if_neg (fun x => (mk8_bit0 (m2 j (by omega)) (by omega)).mp x c4)]
            exact Or.inr ⟨fun x => x.2.2.2.2 c4, rfl⟩
          · rw [if_pos ((mk8_bit0 (m2 j (by omega)) (by omega)).mpr c4)]
            exact Or.inl ⟨⟨hc, c1, c2, c3, c4⟩, rfl⟩
      · rw [if_neg (fun x => c2 ((mk8_bit m4 (by omega)).mp x)), if_pos rfl]
        exact Or.inr ⟨fun x => c2 x.2.2.1, rfl⟩
    · rw [if_neg (fun x => c1 ((mk8_bit m4 (by omega)).mp x)), if_pos rfl]
      exact Or.inr ⟨fun x => c1 x.2.1, rfl⟩
  have b90 : (rdF F i ∨ F (18 + 4 * i + 1) = 1) → (rdF F j ∨ F (18 + 4 * j + 1) = 1) → ¬ (rdF F i ∧ rdF F j) → (raC F a i j ∧ b_X11_racing_90 r2 r16 102 (nI d) (nI i) (nI j) H = b_X11_racing_227 r2 r16 102 (nI d) (nI i) (nI j) H) ∨ (¬ raC F a i j ∧ b_X11_racing_90 r2 r16 102 (nI d) (nI i) (nI j) H = r16 102 (nI d) (nI i) (nI j + 1) H) := fun k1 k2 k3 => by
    unfold b_X11_racing_90
    rw [x_ok E, Option.bind_some, c4n, x_of E (by omega), Option.bind_some, x_ok E, Option.bind_some, c4n, x_of E (by omega), Option.bind_some]
    by_cases c1 : F (18 + 4 * i + 2) = F (18 + 4 * j + 2)
    · rw [if_pos c1]
      unfold b_X11_racing_117
      rw [x_ok E, Option.bind_some, mu, ad, x_of E (by omega), Option.bind_some, x_ok E, Option.bind_some, mu, ad, x_of E (by omega), Option.bind_some]
      by_cases c2 : F (18 + 4 * i) = F (18 + 4 * j)
      · rw [if_pos c2, no]
        exact Or.inr ⟨fun x => x.1.2.2.2.2.1 c2, rfl⟩
      · rw [if_neg c2]
        unfold b_X11_racing_140 b_X11_racing_145
        rw [if_neg n10]
        unfold b_X11_racing_152
        obtain ⟨e, op, b1, b2, b3, b4, b5, b6, b7, b8, b9, b10, b11, b12⟩ := an_f P hi
        have hop : op = 0 ∨ op = 1 ∨ op = 2 := by
          rw [← b8]
          obtain (x | x) | x := k1
          · rw [b7, show (0 : Int32) = nI 0 from rfl, nI_eq (by omega) (by omega)] at x; exact Or.inl x
          · rw [b7, show (2 : Int32) = nI 2 from rfl, nI_eq (by omega) (by omega)] at x; exact Or.inr (Or.inr x)
          · rw [b7, show (1 : Int32) = nI 1 from rfl, nI_eq (by omega) (by omega)] at x; exact Or.inr (Or.inl x)
        obtain ⟨-, op', a1, a2, -, -, -, a6, -⟩ := Z.2.2.2.2.2.2.2.1 e b1
        have eop : op' = op := by rw [b3, nI_eq (by omega) (by omega)] at a1; exact a1.symm
        obtain ⟨c, c6, c4⟩ := a6 (by rw [eop]; exact hop)
        have f2 : F (18 + 4 * i + 2) = nI c := by rw [b9, c4]
        have z : (0 : Int32) + nI c = nI c := by rw [ad, Nat.zero_add]
        rw [x_ok E, Option.bind_some, c4n, x_of E (by omega), Option.bind_some, f2, x_ok E, Option.bind_some, z, x_of E (by omega), Option.bind_some]
        by_cases c3 : F c = 1
        · rw [if_pos c3]
          refine Or.inr ⟨fun x => x.1.2.2.2.2.2 ?_, rfl⟩
          rw [f2, ix_nI (by omega)]
          exact c3
        · rw [if_neg c3]
          exact b174 ⟨k1, k2, k3, c1, c2, by rw [f2, ix_nI (by omega)]; exact c3⟩
    · rw [if_neg c1, no]
      exact Or.inr ⟨fun x => c1 x.1.2.2.2.1, rfl⟩
  have b74 : (rdF F i ∨ F (18 + 4 * i + 1) = 1) → (rdF F j ∨ F (18 + 4 * j + 1) = 1) → (raC F a i j ∧ b_X11_racing_74 r2 r16 102 (nI d) (nI i) (nI j) H = b_X11_racing_227 r2 r16 102 (nI d) (nI i) (nI j) H) ∨ (¬ raC F a i j ∧ b_X11_racing_74 r2 r16 102 (nI d) (nI i) (nI j) H = r16 102 (nI d) (nI i) (nI j + 1) H) := fun k1 k2 => by
    unfold b_X11_racing_74
    rw [x_ok E, Option.bind_some]
    obtain ⟨c1, c2⟩ | ⟨c1, c2⟩ := x_isr E (by omega : i < 8)
    · rw [c2, Option.bind_some, if_neg n10]
      unfold b_X11_racing_82
      rw [x_ok E, Option.bind_some]
      obtain ⟨c3, c4⟩ | ⟨c3, c4⟩ := x_isr E (by omega : j < 8)
      · rw [c4, Option.bind_some, if_neg n10, no]
        exact Or.inr ⟨fun x => x.1.2.2.1 ⟨c1, c3⟩, rfl⟩
      · rw [c4, Option.bind_some, if_pos rfl]
        exact b90 k1 k2 (fun x => c3 x.2)
    · rw [c2, Option.bind_some, if_pos rfl]
      exact b90 k1 k2 (fun x => c1 x.1)
  have b50 : (rdF F i ∨ F (18 + 4 * i + 1) = 1) → (raC F a i j ∧ b_X11_racing_50 r2 r16 102 (nI d) (nI i) (nI j) H = b_X11_racing_227 r2 r16 102 (nI d) (nI i) (nI j) H) ∨ (¬ raC F a i j ∧ b_X11_racing_50 r2 r16 102 (nI d) (nI i) (nI j) H = r16 102 (nI d) (nI i) (nI j + 1) H) := fun k1 => by
    unfold b_X11_racing_50
    rw [x_ok E, Option.bind_some]
    obtain ⟨c1, c2⟩ | ⟨c1, c2⟩ := x_isr E (by omega : j < 8)
    · rw [c2, Option.bind_some, if_neg n10]
      exact b74 k1 (Or.inl c1)
    · rw [c2, Option.bind_some, if_pos rfl]
      unfold b_X11_racing_58
      rw [x_ok E, Option.bind_some, c4n, x_of E (by omega), Option.bind_some]
      by_cases c3 : F (18 + 4 * j + 1) = 1
      · rw [if_pos c3]
        exact b74 k1 (Or.inr c3)
      · rw [if_neg c3, no]
        exact Or.inr ⟨fun x => x.1.2.1.elim c1 c3, rfl⟩
  unfold b_X11_racing_26
  rw [x_ok E, Option.bind_some]
  obtain ⟨c1, c2⟩ | ⟨c1, c2⟩ := x_isr E (by omega : i < 8)
  · rw [c2, Option.bind_some, if_neg n10]
    exact b50 (Or.inl c1)
  · rw [c2, Option.bind_some, if_pos rfl]
    unfold b_X11_racing_34
    rw [x_ok E, Option.bind_some, c4n, x_of E (by omega), Option.bind_some]
    by_cases c3 : F (18 + 4 * i + 1) = 1
    · rw [if_pos c3]
      exact b50 (Or.inr c3)
    · rw [if_neg c3, no]
      exact Or.inr ⟨fun x => x.1.1.elim c1 c3, rfl⟩
def A117 (r _ : Nat) : Prop := r = 117
theorem rv_117 {k : Nat} {v : Int32} : rowv (st_i H 117 k v) d = rowv H d := by
  funext j
  show hp_i (st_i H 117 k v) 109 _ = _
  rw [sti_r (by decide)]
  rfl
theorem l_rc16 (P : PR F K te ow rx na nt sz V mo) (hd : d < 20) (ho : o ≠ 1) (hi : i < na) : ∀ n j, j + n = na → ∀ fu, n < fu → ∀ H, RZ H → RE H s F o mo → DR K te ow rx na nt sz o V (rowv H d) a p →
    ∃ H', l_X11_racing_16 r2 fu 102 (nI d) (nI i) (nI j) H = r2 102 (nI d) (nI (i + 1)) H' ∧ FRi A117 H H' ∧ (∀ k, (∃ j', j ≤ j' ∧ j' < na ∧ k = 8 * i + j' ∧ raC F a i j') → hp_i H' 117 k = 1) ∧ ∀ k, ¬ (∃ j', j ≤ j' ∧ j' < na ∧ k = 8 * i + j' ∧ raC F a i j') → hp_i H' 117 k = hp_i H 117 k := by
  have Z := P.1
  have hna := Z.1
  intro n
  induction n with
  | zero =>
    intro j hj fu hf H R E D
    obtain ⟨fu, rfl⟩ : ∃ x, fu = x + 1 := ⟨fu - 1, by omega⟩
    refine ⟨H, ?_, fri_rf, fun k ⟨j', _, _, _⟩ => by omega, fun _ _ => rfl⟩
    show b_X11_racing_16 r2 (l_X11_racing_16 r2 fu) 102 (nI d) (nI i) (nI j) H = _
    unfold b_X11_racing_16
    rw [x_ok E, Option.bind_some, show f_X11_of 102 (6 : Int32) H = some (nI na, H) by rw [← P.2.1]; exact x_of (k := 6) E (by omega), Option.bind_some, if_pos ((cmp_N (by omega) (by omega)).mpr (by omega))]
    unfold b_X11_racing_245
    rw [da]
  | succ n ih =>
    intro j hj fu hf H R E D
    obtain ⟨fu, rfl⟩ : ∃ x, fu = x + 1 := ⟨fu - 1, by omega⟩
    have head : l_X11_racing_16 r2 (fu + 1) 102 (nI d) (nI i) (nI j) H = b_X11_racing_26 r2 (l_X11_racing_16 r2 fu) 102 (nI d) (nI i) (nI j) H := by
      show b_X11_racing_16 r2 (l_X11_racing_16 r2 fu) 102 (nI d) (nI i) (nI j) H = _
      unfold b_X11_racing_16
      rw [x_ok E, Option.bind_some, show f_X11_of 102 (6 : Int32) H = some (nI na, H) by rw [← P.2.1]; exact x_of (k := 6) E (by omega), Option.bind_some, if_neg (fun e => by have := (cmp_N (by omega) (by omega)).mp e; omega)]
    rw [head]
    obtain ⟨c1, c2⟩ | ⟨c1, c2⟩ := rc_body (j := j) (r2 := r2) (r16 := l_X11_racing_16 r2 fu) P E hd ho D hi (by omega)
    · rw [c2]
      have R1 : RZ (st_i H 117 (8 * i + j) 1) := rz_st R
      have f1 : FRi A117 H (st_i H 117 (8 * i + j) 1) := fri_st rfl
      obtain ⟨H', y1, y2, y3, y4⟩ := ih (j + 1) (by omega) fu (by omega) (st_i H 117 (8 * i + j) 1) R1 (re_fri (fun k hk c => by unfold A117 at c; omega) (fun k c => by unfold A117 at c; omega) f1 (rz_rh R1) E) (by rw [rv_117]; exact D)
      refine ⟨H', ?_, fri_tr f1 y2, fun k hk => ?_, fun k hk => ?_⟩
      · unfold b_X11_racing_227
        rw [rz_r (f := 39) (r := 117) (l := 64) R (by decide), Option.bind_some, mu, nI_add, rz_s (f := 39) (r := 117) (l := 64) R (by decide) (by omega) (by omega), Option.bind_some]
        unfold b_X11_racing_239
        rw [da]
        exact y1
      · by_cases e : ∃ j', j + 1 ≤ j' ∧ j' < na ∧ k = 8 * i + j' ∧ raC F a i j'
        · exact y3 k e
        · rw [y4 k e]
          obtain ⟨j', z1, z2, z3, z4⟩ := hk
          have : j' = j := by
            apply Classical.byContradiction
            intro hne
            exact e ⟨j', by omega, z2, z3, z4⟩
          rw [z3, this, sti_s]
      · rw [y4 k (fun ⟨j', z1, z2⟩ => hk ⟨j', by omega, z2⟩), sti_k (fun x => hk ⟨j, Nat.le_refl _, by omega, x, c1⟩)]
    · rw [c2, da]
      obtain ⟨H', y1, y2, y3, y4⟩ := ih (j + 1) (by omega) fu (by omega) H R E D
      refine ⟨H', y1, y2, fun k ⟨j', z1, z2, z3, z4⟩ => y3 k ⟨j', ?_, z2, z3, z4⟩, fun k hk => y4 k (fun ⟨j', z1, z2⟩ => hk ⟨j', by omega, z2⟩)⟩
      have : j' ≠ j := fun x => c1 (x ▸ z4)
      omega
theorem l_rc2 (P : PR F K te ow rx na nt sz V mo) (hd : d < 20) (ho : o ≠ 1) : ∀ n i, i + n = na → ∀ fu, n < fu → ∀ H, RZ H → RE H s F o mo → DR K te ow rx na nt sz o V (rowv H d) a p →
    ∃ H', l_X11_racing_2 fu 102 (nI d) (nI i) H = some H' ∧ FRi A117 H H' ∧ (∀ k, (∃ i' j', i ≤ i' ∧ i' < j' ∧ j' < na ∧ k = 8 * i' + j' ∧ raC F a i' j') → hp_i H' 117 k = 1) ∧ ∀ k, ¬ (∃ i' j', i ≤ i' ∧ i' < j' ∧ j' < na ∧ k = 8 * i' + j' ∧ raC F a i' j') → hp_i H' 117 k = hp_i H 117 k := by
  have Z := P.1
  have hna := Z.1
  intro n
  induction n with
  | zero =>
    intro i hi fu hf H R E D
    obtain ⟨fu, rfl⟩ : ∃ x, fu = x + 1 := ⟨fu - 1, by omega⟩
    refine ⟨H, ?_, fri_rf, fun k ⟨i', j', _, _, _, _⟩ => by omega, fun _ _ => rfl⟩
    show b_X11_racing_2 (l_X11_racing_2 fu) 102 (nI d) (nI i) H = _
    unfold b_X11_racing_2
    rw [x_ok E, Option.bind_some, show f_X11_of 102 (6 : Int32) H = some (nI na, H) by rw [← P.2.1]; exact x_of (k := 6) E (by omega), Option.bind_some, if_pos ((cmp_N (by omega) (by omega)).mpr (by omega))]
    rfl
  | succ n ih =>
    intro i hi fu hf H R E D
    obtain ⟨fu, rfl⟩ : ∃ x, fu = x + 1 := ⟨fu - 1, by omega⟩
    obtain ⟨H1, x1, x2, x3, x4⟩ := l_rc16 (r2 := l_X11_racing_2 fu) (i := i) P hd ho (by omega) (na - (i + 1)) (i + 1) (by omega) fu_ (by unfold fu_; omega) H R E D
    have R1 := fri_rz x2 R
    have rv1 : rowv H1 d = rowv H d := by
      funext k
      exact x2.2.2.2.2.2.2 _ _ (fun c => by unfold A117 at c; omega)
    obtain ⟨H2, y1, y2, y3, y4⟩ := ih (i + 1) (by omega) fu (by omega) H1 R1 (re_fri (fun k hk c => by unfold A117 at c; omega) (fun k c => by unfold A117 at c; omega) x2 (rz_rh R1) E) (by rw [rv1]; exact D)
    refine ⟨H2, ?_, fri_tr x2 y2, fun k hk => ?_, fun k hk => ?_⟩
    · show b_X11_racing_2 (l_X11_racing_2 fu) 102 (nI d) (nI i) H = _
      unfold b_X11_racing_2
      rw [x_ok E, Option.bind_some, show f_X11_of 102 (6 : Int32) H = some (nI na, H) by rw [← P.2.1]; exact x_of (k := 6) E (by omega), Option.bind_some, if_neg (fun e => by have := (cmp_N (by omega) (by omega)).mp e; omega)]
      unfold b_X11_racing_12
      rw [da]
      exact x1.trans y1
    · by_cases e : ∃ i' j', i + 1 ≤ i' ∧ i' < j' ∧ j' < na ∧ k = 8 * i' + j' ∧ raC F a i' j'
      · exact y3 k e
      · rw [y4 k e]
        obtain ⟨i', j', z1, z2, z3, z4, z5⟩ := hk
        have : i' = i := by
          apply Classical.byContradiction
          intro hne
          exact e ⟨i', j', by omega, z2, z3, z4, z5⟩
        subst this
        exact x3 k ⟨j', by omega, z3, z4, z5⟩
    · rw [y4 k (fun ⟨i', j', z1, z2⟩ => hk ⟨i', j', by omega, z2⟩), x4 k (fun ⟨j', z1, z2⟩ => hk ⟨i, j', Nat.le_refl _, by omega, z2⟩)]
def AUr (r _ : Nat) : Prop := r = 109 ∨ r = 117
def Ur (h0 : AH) (F : Nat → Int32) (s o : Nat) (mo : Int32) (h : AH) : Prop := RZ h ∧ RE h s F o mo ∧ hp_i h 102 28 = 1 ∧ FRi AUr h0 h
def Qr (F : Nat → Int32) (na : Nat) (h : AH) (L : List (AS × List Nat)) : Prop := ∀ k, k < 64 → (hp_i h 117 k = 0 ∨ hp_i h 117 k = 1) ∧ (hp_i h 117 k = 1 ↔ ∃ i j, i < j ∧ j < na ∧ k = 8 * i + j ∧ ∃ x, x ∈ L ∧ raC F x.1 i j)
theorem ve_R (P : PR F K te ow rx na nt sz V mo) (ho : o ≠ 1) : VE F K te ow rx na nt sz o s V mo (Ur h0 F s o mo) (Qr F na) := by
  have Z := P.1
  refine ⟨fun h u => u.2.1, fun h d g u => ?_, fun h d g L q k hk => ?_, fun h d a p L hd u q D S he => ?_⟩
  · obtain ⟨u1, u2, u3, u4⟩ := u
    exact ⟨u1, sR_re u2, by rw [sR_i (by decide)]; exact u3, fri_tr u4 (fri_sR (fun k => Or.inl rfl))⟩
  · rw [sR_i (by decide)]; exact q k hk
  · obtain ⟨u1, u2, u3, u4⟩ := u
    obtain ⟨h', x1, x2, x3, x4⟩ := l_rc2 (d := d) (a := a) (p := p) P hd ho na 0 (by omega) fu_ (by have := Z.1; unfold fu_; omega) h u1 u2 D
    have R' := fri_rz x2 u1
    have nA : ∀ r k, r ≠ 117 → hp_i h' r k = hp_i h r k := fun r k hr => x2.2.2.2.2.2.2 r k hr
    refine ⟨h', ?_, ⟨R', re_fri (fun k hk c => by unfold A117 at c; omega) (fun k c => by unfold A117 at c; omega) x2 (rz_rh R') u2, by rw [nA _ _ (by decide)]; exact u3, fri_tr u4 (fri_mono (fun r k c => Or.inr c) x2)⟩, fun k hk => ?_, ?_⟩
    · unfold f_X11_ended b_X11_ended_0
      rw [rz_g u1, Option.bind_some, u3, if_neg n10]
      unfold b_X11_ended_19
      rw [rz_g u1, Option.bind_some, u3, if_pos rfl]
      unfold b_X11_ended_27
      rw [rz_v u1, Option.bind_some, show f_X11_racing 102 (nI d) h = some h' from x1, Option.bind_some]
      rfl
    · obtain ⟨q1, q2⟩ := q k hk
      by_cases e : ∃ i' j', 0 ≤ i' ∧ i' < j' ∧ j' < na ∧ k = 8 * i' + j' ∧ raC F a i' j'
      · have := x3 k e
        refine ⟨Or.inr this, fun _ => ?_, fun _ => this⟩
        obtain ⟨i', j', -, z2, z3, z4, z5⟩ := e
        exact ⟨i', j', z2, z3, z4, (a, p), List.mem_append.mpr (Or.inr (List.mem_singleton.mpr rfl)), z5⟩
      · rw [x4 k e]
        refine ⟨q1, q2.trans ⟨fun ⟨i', j', z1, z2, z3, x, z4, z5⟩ => ⟨i', j', z1, z2, z3, x, List.mem_append.mpr (Or.inl z4), z5⟩, fun ⟨i', j', z1, z2, z3, x, z4, z5⟩ => ⟨i', j', z1, z2, z3, x, ?_, z5⟩⟩⟩
        obtain z4 | z4 := List.mem_append.mp z4
        · exact z4
        · rw [List.mem_singleton] at z4
          rw [z4] at z5
          exact absurd ⟨i', j', by omega, z1, z2, z3, z5⟩ e
    · funext k
      exact nA 109 k (by decide)
end
