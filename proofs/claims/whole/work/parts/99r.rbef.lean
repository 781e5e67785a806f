/-! ===== the reference's befores, its wish ===== -/
noncomputable def bv (a : AS) (i j : Nat) : Int32 := 1 ||| @ite _ (as_ea a j i) (Classical.propDecidable _) (2 : Int32) 4
def A119 (s r k : Nat) : Prop := r = 119 ∧ 64 * s ≤ k ∧ k < 64 * s + 64
section
variable {h h0 H : AH} {d s o li i j : Nat} {g F : Nat → Int32} {mo md : Int32} {K : Nat → Nat → Int32} {te ow rx : Nat → Nat} {na nt sz : Nat} {V : Nat → Bool} {a : AS} {p : List Nat} {r2 : Nat → Int32 → Int32 → AH → Option AH}
theorem rv_119 {k : Nat} {v : Int32} : rowv (st_i H 119 k v) d = rowv H d := by
  funext j
  show hp_i (st_i H 119 k v) 109 _ = _
  rw [sti_r (by decide)]
  rfl
theorem l_cp14 (P : PR F K te ow rx na nt sz V mo) (hd : d < 20) (ho : o ≠ 1) (hi : i < na) : ∀ n j, j + n = na → ∀ fu, n < fu → ∀ H, RZ H → RE H s F o mo → DR K te ow rx na nt sz o V (rowv H d) a p →
    ∃ H', l_X11_compares_14 r2 fu 102 (nI d) (nI i) (nI j) H = r2 102 (nI d) (nI (i + 1)) H' ∧ FRi (A119 s) H H' ∧ (∀ j', j ≤ j' → j' < na → as_do a i → as_do a j' → hp_i H' 119 (64 * s + 8 * i + j') = hp_i H 119 (64 * s + 8 * i + j') ||| bv a i j') ∧ ∀ k, ¬ (∃ j', j ≤ j' ∧ j' < na ∧ k = 64 * s + 8 * i + j' ∧ as_do a i ∧ as_do a j') → hp_i H' 119 k = hp_i H 119 k := by
  have Z := P.1
  have hna := Z.1
  intro n
  induction n with
  | zero =>
    intro j hj fu hf H R E D
    obtain ⟨fu, rfl⟩ : ∃ x, fu = x + 1 := ⟨fu - 1, by omega⟩
    refine ⟨H, ?_, fri_rf, fun j' _ _ => by omega, fun _ _ => rfl⟩
    show b_X11_compares_14 r2 (l_X11_compares_14 r2 fu) 102 (nI d) (nI i) (nI j) H = _
    unfold b_X11_compares_14
    rw [x_ok E, Option.bind_some, show f_X11_of 102 (6 : Int32) H = some (nI na, H) by rw [← P.2.1]; exact x_of (k := 6) E (by omega), Option.bind_some, if_pos ((cmp_N (by omega) (by omega)).mpr (by omega))]
    unfold b_X11_compares_94
    rw [da]
  | succ n ih =>
    intro j hj fu hf H R E D
    obtain ⟨fu, rfl⟩ : ∃ x, fu = x + 1 := ⟨fu - 1, by omega⟩
    obtain ⟨m1, m2, m3, m4, m5⟩ := D.2.2.2.2.2.1 ho
    have h8 := E.2.1
    have h24 := E.2.2.2.1
    -- nothing here
    have skip : ¬ (as_do a i ∧ as_do a j) → ∃ H', b_X11_compares_88 r2 (l_X11_compares_14 r2 fu) 102 (nI d) (nI i) (nI j) H = r2 102 (nI d) (nI (i + 1)) H' ∧ FRi (A119 s) H H' ∧ (∀ j', j ≤ j' → j' < na → as_do a i → as_do a j' → hp_i H' 119 (64 * s + 8 * i + j') = hp_i H 119 (64 * s + 8 * i + j') ||| bv a i j') ∧ ∀ k, ¬ (∃ j', j ≤ j' ∧ j' < na ∧ k = 64 * s + 8 * i + j' ∧ as_do a i ∧ as_do a j') → hp_i H' 119 k = hp_i H 119 k := fun hn => by
      obtain ⟨H', y1, y2, y3, y4⟩ := ih (j + 1) (by omega) fu (by omega) H R E D
      refine ⟨H', ?_, y2, fun j' z1 z2 z3 z4 => y3 j' ?_ z2 z3 z4, fun k hk => y4 k (fun ⟨j', z1, z2⟩ => hk ⟨j', by omega, z2⟩)⟩
      · unfold b_X11_compares_88
        rw [da]
        exact y1
      · have : j' ≠ j := fun x => hn ⟨z3, x ▸ z4⟩
        omega
    show ∃ H', b_X11_compares_14 r2 (l_X11_compares_14 r2 fu) 102 (nI d) (nI i) (nI j) H = _ ∧ _
    unfold b_X11_compares_14
    rw [x_ok E, Option.bind_some, show f_X11_of 102 (6 : Int32) H = some (nI na, H) by rw [← P.2.1]; exact x_of (k := 6) E (by omega), Option.bind_some, if_neg (fun e => by have := (cmp_N (by omega) (by omega)).mp e; omega)]
    unfold b_X11_compares_24
    rw [x_ok E, Option.bind_some, x_isd E hd, Option.bind_some]
    by_cases c1 : as_do a i
    · rw [if_pos ((mk8_bit m4 (by omega)).mpr c1), if_neg n10]
      unfold b_X11_compares_33
      rw [x_ok E, Option.bind_some, x_isd E hd, Option.bind_some]
      by_cases c2 : as_do a j
      · rw [if_pos ((mk8_bit m4 (by omega)).mpr c2), if_neg n10]
        unfold b_X11_compares_42
        have ix1 : (64 : Int32) * nI s + (8 : Int32) * nI i + nI j = nI (64 * s + 8 * i + j) := by rw [mu, mu, nI_add, nI_add]
        rw [rz_r (f := 41) (r := 119) (l := 512) R (by decide), Option.bind_some, rz_g R, Option.bind_some, h24, ix1, rz_l (f := 41) (r := 119) (l := 512) R (by decide) (by omega) (by omega), Option.bind_some, x_ok E, Option.bind_some, ad, x_st E hd (by omega), Option.bind_some]
        have both : ∀ v : Int32, bv a i j = 1 ||| v → ∃ H', b_X11_compares_85 r2 (l_X11_compares_14 r2 fu) 102 (nI d) (nI i) (nI j) 119 (nI (64 * s + 8 * i + j)) (hp_i H 119 (64 * s + 8 * i + j)) 1 v H = r2 102 (nI d) (nI (i + 1)) H' ∧ FRi (A119 s) H H' ∧ (∀ j', j ≤ j' → j' < na → as_do a i → as_do a j' → hp_i H' 119 (64 * s + 8 * i + j') = hp_i H 119 (64 * s + 8 * i + j') ||| bv a i j') ∧ ∀ k, ¬ (∃ j', j ≤ j' ∧ j' < na ∧ k = 64 * s + 8 * i + j' ∧ as_do a i ∧ as_do a j') → hp_i H' 119 k = hp_i H 119 k := fun v hv => by
          have R1 : RZ (st_i H 119 (64 * s + 8 * i + j) (hp_i H 119 (64 * s + 8 * i + j) ||| (1 ||| v))) := rz_st R
          have f1 : FRi (A119 s) H (st_i H 119 (64 * s + 8 * i + j) (hp_i H 119 (64 * s + 8 * i + j) ||| (1 ||| v))) := fri_st ⟨rfl, by omega, by omega⟩
          obtain ⟨H', y1, y2, y3, y4⟩ := ih (j + 1) (by omega) fu (by omega) _ R1 (re_fri (fun k hk c => by have := c.1; omega) (fun k c => by have := c.1; omega) f1 (rz_rh R1) E) (by rw [rv_119]; exact D)
          refine ⟨H', ?_, fri_tr f1 y2, fun j' z1 z2 z3 z4 => ?_, fun k hk => ?_⟩
          · unfold b_X11_compares_85
            rw [rz_s (f := 41) (r := 119) (l := 512) R (by decide) (by omega) (by omega), Option.bind_some]
            unfold b_X11_compares_88
            rw [da]
            exact y1
          · by_cases e : j' = j
            · subst e
              rw [y4 _ (fun ⟨j'', w1, w2, w3, _⟩ => by omega), sti_s, hv]
            · rw [y3 j' (by omega) z2 z3 z4, sti_k (by omega)]
          · rw [y4 k (fun ⟨j', z1, z2⟩ => hk ⟨j', by omega, z2⟩), sti_k (fun x => hk ⟨j, Nat.le_refl _, by omega, x, c1, c2⟩)]
        by_cases c3 : as_ea a j i
        · rw [if_pos ((mk8_bit (m2 j (by omega)) (by omega)).mpr c3)]
          exact both 2 (by unfold bv; rw [@if_pos _ (Classical.propDecidable _) c3])
        · rw [if_neg (fun x => c3 ((mk8_bit (m2 j (by omega)) (by omega)).mp x))]
          exact both 4 (by unfold bv; rw [@if_neg _ (Classical.propDecidable _) c3])
      · rw [if_neg (fun x => c2 ((mk8_bit m4 (by omega)).mp x)), if_pos rfl]
        exact skip (fun x => c2 x.2)
    · rw [if_neg (fun x => c1 ((mk8_bit m4 (by omega)).mp x)), if_pos rfl]
      exact skip (fun x => c1 x.1)
theorem l_cp2 (P : PR F K te ow rx na nt sz V mo) (hd : d < 20) (ho : o ≠ 1) : ∀ n i, i + n = na → ∀ fu, n < fu → ∀ H, RZ H → RE H s F o mo → DR K te ow rx na nt sz o V (rowv H d) a p →
    ∃ H', l_X11_compares_2 fu 102 (nI d) (nI i) H = some H' ∧ FRi (A119 s) H H' ∧ (∀ i' j', i ≤ i' → i' < na → j' < na → as_do a i' → as_do a j' → hp_i H' 119 (64 * s + 8 * i' + j') = hp_i H 119 (64 * s + 8 * i' + j') ||| bv a i' j') ∧ ∀ k, ¬ (∃ i' j', i ≤ i' ∧ i' < na ∧ j' < na ∧ k = 64 * s + 8 * i' + j' ∧ as_do a i' ∧ as_do a j') → hp_i H' 119 k = hp_i H 119 k := by
  have Z := P.1
  have hna := Z.1
  intro n
  induction n with
  | zero =>
    intro i hi fu hf H R E D
    obtain ⟨fu, rfl⟩ : ∃ x, fu = x + 1 := ⟨fu - 1, by omega⟩
    refine ⟨H, ?_, fri_rf, fun i' j' _ _ => by omega, fun _ _ => rfl⟩
    show b_X11_compares_2 (l_X11_compares_2 fu) 102 (nI d) (nI i) H = _
    unfold b_X11_compares_2
    rw [x_ok E, Option.bind_some, show f_X11_of 102 (6 : Int32) H = some (nI na, H) by rw [← P.2.1]; exact x_of (k := 6) E (by omega), Option.bind_some, if_pos ((cmp_N (by omega) (by omega)).mpr (by omega))]
    rfl
  | succ n ih =>
    intro i hi fu hf H R E D
    obtain ⟨fu, rfl⟩ : ∃ x, fu = x + 1 := ⟨fu - 1, by omega⟩
    obtain ⟨H1, x1, x2, x3, x4⟩ := l_cp14 (r2 := l_X11_compares_2 fu) (i := i) P hd ho (by omega) na 0 (by omega) fu_ (by unfold fu_; omega) H R E D
    have R1 := fri_rz x2 R
    have rv1 : rowv H1 d = rowv H d := by
      funext k
      exact x2.2.2.2.2.2.2 _ _ (fun c => by have := c.1; omega)
    obtain ⟨H2, y1, y2, y3, y4⟩ := ih (i + 1) (by omega) fu (by omega) H1 R1 (re_fri (fun k hk c => by have := c.1; omega) (fun k c => by have := c.1; omega) x2 (rz_rh R1) E) (by rw [rv1]; exact D)
    refine ⟨H2, ?_, fri_tr x2 y2, fun i' j' z1 z2 z3 z4 z5 => ?_, fun k hk => ?_⟩
    · show b_X11_compares_2 (l_X11_compares_2 fu) 102 (nI d) (nI i) H = _
      unfold b_X11_compares_2
      rw [x_ok E, Option.bind_some, show f_X11_of 102 (6 : Int32) H = some (nI na, H) by rw [← P.2.1]; exact x_of (k := 6) E (by omega), Option.bind_some, if_neg (fun e => by have := (cmp_N (by omega) (by omega)).mp e; omega)]
      exact x1.trans y1
    · by_cases e : i' = i
      · subst e
        rw [y4 _ (fun ⟨i'', j'', w1, w2, w3, w4, _⟩ => by omega), x3 j' (by omega) z3 z4 z5]
      · rw [y3 i' j' (by omega) z2 z3 z4 z5, x4 _ (fun ⟨j'', w1, w2, w3, _⟩ => by omega)]
    · rw [y4 k (fun ⟨i', j', z1, z2⟩ => hk ⟨i', j', by omega, z2⟩), x4 k (fun ⟨j', z1, z2, z3, z4⟩ => hk ⟨i, j', Nat.le_refl _, by omega, z2, z3, z4⟩)]
def bq (L : List (AS × List Nat)) (i j k : Nat) : Prop := (k = 0 ∧ ∃ x, x ∈ L ∧ as_do x.1 i ∧ as_do x.1 j) ∨ (k = 1 ∧ ∃ x, x ∈ L ∧ as_do x.1 i ∧ as_do x.1 j ∧ as_ea x.1 j i) ∨ (k = 2 ∧ ∃ x, x ∈ L ∧ as_do x.1 i ∧ as_do x.1 j ∧ ¬ as_ea x.1 j i)
theorem bv_m (a : AS) (i j : Nat) : mk8 (bv a i j) (fun k => k = 0 ∨ (k = 1 ∧ as_ea a j i) ∨ (k = 2 ∧ ¬ as_ea a j i)) := by
  unfold bv
  have e0 : mk8 (1 : Int32) (fun k => k = 0) := mk8_1 (l := 0) (by omega)
  by_cases c : as_ea a j i
  · rw [@if_pos _ (Classical.propDecidable _) c]
    have e1 : mk8 (2 : Int32) (fun k => k = 1) := mk8_1 (l := 1) (by omega)
    exact mk8_cg (fun k _ => or_congr_right ⟨fun x => Or.inl ⟨x, c⟩, fun x => x.elim (fun y => y.1) (fun y => absurd c y.2)⟩) (mk8_or e0 e1)
  · rw [@if_neg _ (Classical.propDecidable _) c]
    have e1 : mk8 (4 : Int32) (fun k => k = 2) := mk8_1 (l := 2) (by omega)
    exact mk8_cg (fun k _ => or_congr_right ⟨fun x => Or.inr ⟨x, c⟩, fun x => x.elim (fun y => absurd y.2 c) (fun y => y.1)⟩) (mk8_or e0 e1)
def AUb (s r k : Nat) : Prop := r = 109 ∨ A119 s r k
def Ub (h0 : AH) (F : Nat → Int32) (s o : Nat) (mo : Int32) (h : AH) : Prop := RZ h ∧ RE h s F o mo ∧ hp_i h 102 28 = 3 ∧ FRi (AUb s) h0 h
def Qb (s na : Nat) (h : AH) (L : List (AS × List Nat)) : Prop := ∀ i j, i < na → j < na → mk8 (hp_i h 119 (64 * s + 8 * i + j)) (bq L i j)
theorem ve_B (P : PR F K te ow rx na nt sz V mo) (ho : o ≠ 1) : VE F K te ow rx na nt sz o s V mo (Ub h0 F s o mo) (Qb s na) := by
  have Z := P.1
  refine ⟨fun h u => u.2.1, fun h d g u => ?_, fun h d g L q i j hi hj => ?_, fun h d a p L hd u q D S he => ?_⟩
  · obtain ⟨u1, u2, u3, u4⟩ := u
    exact ⟨u1, sR_re u2, by rw [sR_i (by decide)]; exact u3, fri_tr u4 (fri_sR (fun k => Or.inl rfl))⟩
  · rw [sR_i (by decide)]; exact q i j hi hj
  · obtain ⟨u1, u2, u3, u4⟩ := u
    obtain ⟨h', x1, x2, x3, x4⟩ := l_cp2 (d := d) (a := a) (p := p) P hd ho na 0 (by omega) fu_ (by have := Z.1; unfold fu_; omega) h u1 u2 D
    have R' := fri_rz x2 u1
    have nA : ∀ r k, r ≠ 119 → hp_i h' r k = hp_i h r k := fun r k hr => x2.2.2.2.2.2.2 r k (fun c => hr c.1)
    refine ⟨h', ?_, ⟨R', re_fri (fun k hk c => by have := c.1; omega) (fun k c => by have := c.1; omega) x2 (rz_rh R') u2, by rw [nA _ _ (by decide)]; exact u3, fri_tr u4 (fri_mono (fun r k c => Or.inr c) x2)⟩, fun i j hi hj => ?_, ?_⟩
    · unfold f_X11_ended b_X11_ended_0
      rw [rz_g u1, Option.bind_some, u3, if_neg (by decide)]
      unfold b_X11_ended_19
      rw [rz_g u1, Option.bind_some, u3, if_neg (by decide)]
      unfold b_X11_ended_35
      rw [rz_g u1, Option.bind_some, u3, if_neg (by decide)]
      unfold b_X11_ended_51
      rw [rz_v u1, Option.bind_some, show f_X11_compares 102 (nI d) h = some h' from x1, Option.bind_some]
      rfl
    · have q0 := q i j hi hj
      by_cases e : as_do a i ∧ as_do a j
      · rw [x3 i j (by omega) hi hj e.1 e.2]
        refine mk8_cg (fun k _ => ?_) (mk8_or q0 (bv_m a i j))
        have ma : (a, p) ∈ L ++ [(a, p)] := List.mem_append.mpr (Or.inr (List.mem_singleton.mpr rfl))
        constructor
        · rintro ((⟨z0, x, z1, z2⟩ | ⟨z0, x, z1, z2⟩ | ⟨z0, x, z1, z2⟩) | z | z | z)
          · exact Or.inl ⟨z0, x, List.mem_append.mpr (Or.inl z1), z2⟩
          · exact Or.inr (Or.inl ⟨z0, x, List.mem_append.mpr (Or.inl z1), z2⟩)
          · exact Or.inr (Or.inr ⟨z0, x, List.mem_append.mpr (Or.inl z1), z2⟩)
          · exact Or.inl ⟨z, (a, p), ma, e.1, e.2⟩
          · exact Or.inr (Or.inl ⟨z.1, (a, p), ma, e.1, e.2, z.2⟩)
          · exact Or.inr (Or.inr ⟨z.1, (a, p), ma, e.1, e.2, z.2⟩)
        · rintro (⟨z0, x, z1, z2⟩ | ⟨z0, x, z1, z2⟩ | ⟨z0, x, z1, z2⟩)
          · exact Or.inr (Or.inl z0)
          · obtain z1 | z1 := List.mem_append.mp z1
            · exact Or.inl (Or.inr (Or.inl ⟨z0, x, z1, z2⟩))
            · rw [List.mem_singleton] at z1; rw [z1] at z2; exact Or.inr (Or.inr (Or.inl ⟨z0, z2.2.2⟩))
          · obtain z1 | z1 := List.mem_append.mp z1
            · exact Or.inl (Or.inr (Or.inr ⟨z0, x, z1, z2⟩))
            · rw [List.mem_singleton] at z1; rw [z1] at z2; exact Or.inr (Or.inr (Or.inr ⟨z0, z2.2.2⟩))
      · have hna := Z.1
        rw [x4 _ (fun ⟨i', j', _, w2, w3, w4, w5⟩ => e (by
          have e1 : i' = i := by omega
          have e2 : j' = j := by omega
          rw [e1, e2] at w5
          exact w5))]
        refine mk8_cg (fun k _ => ?_) q0
        have key : ∀ R : AS → Prop, (∀ x, R x → as_do x i ∧ as_do x j) → ((∃ x, x ∈ L ∧ R x.1) ↔ ∃ x, x ∈ L ++ [(a, p)] ∧ R x.1) := fun R hR => by
          constructor
          · rintro ⟨x, z1, z2⟩; exact ⟨x, List.mem_append.mpr (Or.inl z1), z2⟩
          · rintro ⟨x, z1, z2⟩
            obtain z1 | z1 := List.mem_append.mp z1
            · exact ⟨x, z1, z2⟩
            · rw [List.mem_singleton] at z1; rw [z1] at z2; exact absurd (hR _ z2) e
        unfold bq
        rw [key (fun x => as_do x i ∧ as_do x j) (fun x hx => hx), key (fun x => as_do x i ∧ as_do x j ∧ as_ea x j i) (fun x hx => ⟨hx.1, hx.2.1⟩), key (fun x => as_do x i ∧ as_do x j ∧ ¬ as_ea x j i) (fun x hx => ⟨hx.1, hx.2.1⟩)]
    · funext k
      exact nA 109 k (by decide)
/-! the wish -/
theorem l_vin {x : Nat} (hx : x < 2 ^ 30) : ∀ n l, l + n = 4 → ∀ fu, n < fu → ∀ y, y < 2 ^ 30 → l_X11_valueIn_7 fu (nI l) (nI y) (nI 4) H = l_X11_valueIn_7 fu (nI l) (nI y) (nI (l + n)) H := fun n l h fu _ y _ => by rw [h]
theorem l_vin2 {l : Nat} (hl : l ≤ 4) : ∀ n, l + n ≤ 4 → ∀ fu, n < fu → ∀ y, y < 2 ^ 30 → l_X11_valueIn_7 fu (nI l) (nI y) (nI (l + n)) H = some (nI (y / 10 ^ n % 10), H) := by
  intro n
  induction n with
  | zero =>
    intro _ fu hf y hy
    obtain ⟨fu, rfl⟩ : ∃ x, fu = x + 1 := ⟨fu - 1, by omega⟩
    show b_X11_valueIn_7 (l_X11_valueIn_7 fu) (nI l) (nI y) (nI l) H = _
    unfold b_X11_valueIn_7
    rw [if_pos (Int32.le_refl _)]
    unfold b_X11_valueIn_23
    have : rm_i (nI y) (10 : Int32) = some (nI (y % 10)) := by
      show (if (10 : Int32) = 0 then none else some (nI y - nI y / 10 * 10)) = _
      rw [if_neg (by decide), show (10 : Int32) = nI 10 from rfl, pk_rem (by omega) (by omega) (by omega)]
    rw [this, Option.bind_some, Nat.pow_zero, Nat.div_one]
  | succ n ih =>
    intro hn fu hf y hy
    obtain ⟨fu, rfl⟩ : ∃ x, fu = x + 1 := ⟨fu - 1, by omega⟩
    show b_X11_valueIn_7 (l_X11_valueIn_7 fu) (nI l) (nI y) (nI (l + (n + 1))) H = _
    unfold b_X11_valueIn_7
    rw [if_neg (nI_ge (by omega) (by omega))]
    unfold b_X11_valueIn_12
    have : dv_i (nI y) (10 : Int32) = some (nI (y / 10)) := by
      show (if (10 : Int32) = 0 then none else some (nI y / 10)) = _
      rw [if_neg (by decide), show (10 : Int32) = nI 10 from rfl, pk_div (by omega) (by omega) (by omega)]
    rw [this, Option.bind_some, show nI (l + (n + 1)) + -1 = nI (l + n) from pk_m1 (l + n), ih (by omega) fu (by omega) (y / 10) (by omega), Nat.div_div_eq_div_mul, show 10 * 10 ^ n = 10 ^ (n + 1) by rw [Nat.pow_succ, Nat.mul_comm]]
theorem x_vin {v : Nat → Nat} {st l : Nat} (hv : ∀ l, l < 5 → v l ≤ 9) (hs : st < 16) (hl : l < 5) : f_X11_valueIn (nI (nd10 v st)) (nI l) H = some (nI (v l), H) := by
  have lt := nd_lt hv hs
  unfold f_X11_valueIn b_X11_valueIn_0
  have e1 : dv_i (nI (nd10 v st)) (16 : Int32) = some (nI (nd10 v st / 16)) := by
    show (if (16 : Int32) = 0 then none else some (nI (nd10 v st) / 16)) = _
    rw [if_neg (by decide), show (16 : Int32) = nI 16 from rfl, pk_div (by omega) (by omega) (by omega)]
  have e2 := l_vin2 (H := H) (l := l) (by omega) (4 - l) (by omega) fu_ (by unfold fu_; omega) (nd10 v st / 16) (by omega)
  rw [show l + (4 - l) = 4 by omega] at e2
  rw [e1, Option.bind_some, show (4 : Int32) = nI 4 from rfl, e2]
  have h0 := hv 0 (by omega); have h1 := hv 1 (by omega); have h2 := hv 2 (by omega); have h3 := hv 3 (by omega); have h4 := hv 4 (by omega)
  have key : nd10 v st / 16 / 10 ^ (4 - l) % 10 = v l := by
    unfold nd10
    have : l = 0 ∨ l = 1 ∨ l = 2 ∨ l = 3 ∨ l = 4 := by omega
    obtain rfl | rfl | rfl | rfl | rfl := this
    · show _ / 16 / 10000 % 10 = _; omega
    · show _ / 16 / 1000 % 10 = _; omega
    · show _ / 16 / 100 % 10 = _; omega
    · show _ / 16 / 10 % 10 = _; omega
    · show _ / 16 / 1 % 10 = _; omega
  rw [key]
theorem l_meet {v : Nat → Nat} {st : Nat} (R : RZ H) (hv : ∀ l, l < 5 → v l ≤ 9) (hs : st < 16) : ∀ n, n ≤ 5 → ∀ fu, n < fu → ∀ x, (x = 0 ∨ x = 1) → ∃ r, l_X11_meets_4 fu 102 (nI (nd10 v st)) x (nI (5 - n)) H = some (r, H) ∧ (r = 0 ∨ r = 1) ∧ (r = 1 ↔ x = 1 ∧ ∀ l, 5 - n ≤ l → l < 5 → hp_i H 112 l = -1 ∨ hp_i H 112 l = nI (v l)) := by
  intro n
  induction n with
  | zero =>
    intro _ fu hf x hx
    obtain ⟨fu, rfl⟩ : ∃ y, fu = y + 1 := ⟨fu - 1, by omega⟩
    show ∃ r, b_X11_meets_4 (l_X11_meets_4 fu) 102 (nI (nd10 v st)) x (nI 5) H = _ ∧ _
    unfold b_X11_meets_4
    rw [if_pos (by decide)]
    unfold b_X11_meets_49
    refine ⟨x, ?_, hx, ⟨fun y => ⟨y, fun l h1 h2 => by omega⟩, fun y => y.1⟩⟩
    obtain rfl | rfl := hx
    · exact ok_z_0
    · exact ok_z_1
  | succ n ih =>
    intro hn fu hf x hx
    obtain ⟨fu, rfl⟩ : ∃ y, fu = y + 1 := ⟨fu - 1, by omega⟩
    generalize hi : 5 - (n + 1) = i
    have i2 : nI i + (1 : Int32) = nI (5 - n) := by rw [da]; congr 1; omega
    show ∃ r, b_X11_meets_4 (l_X11_meets_4 fu) 102 (nI (nd10 v st)) x (nI i) H = _ ∧ _
    unfold b_X11_meets_4
    rw [if_neg (fun e => by have := (cmp_N (a := 5) (b := i) (by omega) (by omega)).mp e; omega)]
    have nx : ∀ y, (y = 0 ∨ y = 1) → (y = 1 ↔ x = 1 ∧ (hp_i H 112 i = -1 ∨ hp_i H 112 i = nI (v i))) → ∃ r, b_X11_meets_42 (l_X11_meets_4 fu) 102 (nI (nd10 v st)) (nI i) y H = some (r, H) ∧ (r = 0 ∨ r = 1) ∧ (r = 1 ↔ x = 1 ∧ ∀ l, i ≤ l → l < 5 → hp_i H 112 l = -1 ∨ hp_i H 112 l = nI (v l)) := fun y hy y1 => by
      obtain ⟨r, r1, r2, r3⟩ := ih (by omega) fu (by omega) y hy
      refine ⟨r, ?_, r2, r3.trans ?_⟩
      · unfold b_X11_meets_42
        rw [i2]
        exact r1
      · rw [y1]
        constructor
        · rintro ⟨⟨z1, z2⟩, z3⟩
          refine ⟨z1, fun l h1 h2 => ?_⟩
          by_cases e : l = i
          · subst e; exact z2
          · exact z3 l (by omega) h2
        · rintro ⟨z1, z2⟩
          exact ⟨⟨z1, z2 i (Nat.le_refl _) (by omega)⟩, fun l h1 h2 => z2 l (by omega) h2⟩
    unfold b_X11_meets_9
    by_cases c0 : x = 0
    · rw [if_pos c0]
      exact nx 0 (Or.inl rfl) ⟨fun y => absurd y (by decide), fun y => absurd (c0.symm.trans y.1) (by decide)⟩
    · rw [if_neg c0]
      have x1 : x = 1 := hx.elim (fun y => absurd y c0) id
      unfold b_X11_meets_13
      rw [rz_r (f := 32) (r := 112) (l := 5) R (by decide), Option.bind_some, rz_l (f := 32) (r := 112) (l := 5) R (by decide) (by omega) (by omega), Option.bind_some]
      by_cases c1 : hp_i H 112 i = -1
      · rw [if_pos c1]
        exact nx 1 (Or.inr rfl) ⟨fun _ => ⟨x1, Or.inl c1⟩, fun _ => rfl⟩
      · rw [if_neg c1]
        unfold b_X11_meets_23
        rw [x_vin hv hs (by omega), Option.bind_some, rz_r (f := 32) (r := 112) (l := 5) R (by decide), Option.bind_some, rz_l (f := 32) (r := 112) (l := 5) R (by decide) (by omega) (by omega), Option.bind_some]
        by_cases c2 : nI (v i) = hp_i H 112 i
        · rw [if_pos c2]
          exact nx 1 (Or.inr rfl) ⟨fun _ => ⟨x1, Or.inr c2.symm⟩, fun _ => rfl⟩
        · rw [if_neg c2]
          exact nx 0 (Or.inl rfl) ⟨fun y => absurd y (by decide), fun y => y.2.elim (fun z => absurd z c1) (fun z => absurd z.symm c2)⟩
theorem x_meet {v : Nat → Nat} {st : Nat} (R : RZ H) (hv : ∀ l, l < 5 → v l ≤ 9) (hs : st < 16) : ∃ r, f_X11_meets 102 (nI (nd10 v st)) H = some (r, H) ∧ (r = 0 ∨ r = 1) ∧ (r = 1 ↔ ∀ l, l < 5 → hp_i H 112 l = -1 ∨ hp_i H 112 l = nI (v l)) := by
  obtain ⟨r, r1, r2, r3⟩ := l_meet R hv hs 5 (Nat.le_refl _) fu_ (by decide) 1 (Or.inr rfl)
  exact ⟨r, r1, r2, r3.trans ⟨fun x l hl => x.2 l (by omega) hl, fun x => ⟨rfl, fun l _ hl => x l hl⟩⟩⟩
end
