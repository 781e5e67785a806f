/-! ===== the reference's raced, before ===== -/
def RLf (f : Nat → Int32) (k : Nat) : List Nat := (List.range k).filter (fun k => decide (¬ f k = 0))
theorem rlf_s {f : Nat → Int32} {k : Nat} : RLf f (k + 1) = RLf f k ++ (if f k = 0 then [] else [k]) := by
  unfold RLf
  rw [List.range_succ, List.filter_append]
  congr 1
  by_cases c : f k = 0
  · rw [if_pos c]
    simp [c]
  · rw [if_neg c]
    simp [c]
theorem rlf_len {f : Nat → Int32} {k : Nat} : (RLf f k).length ≤ k := by
  have := List.length_filter_le (fun k => decide (¬ f k = 0)) (List.range k)
  rw [List.length_range] at this
  exact this
section
variable {h h0 H : AH} {d s o li i j : Nat} {g F : Nat → Int32} {mo md : Int32} {K : Nat → Nat → Int32} {te ow rx : Nat → Nat} {na nt sz : Nat} {V : Nat → Bool} {a : AS} {p : List Nat}
theorem l_rz25 : ∀ n i, i + n = 64 → ∀ fu, n < fu → ∀ G, RZ G → ∃ H', l_X11_raced_25 fu 102 (nI i) G = b_X11_raced_44 102 H' ∧ FRi A117 G H' ∧ (∀ k, i ≤ k → k < 64 → hp_i H' 117 k = 0) ∧ ∀ k, k < i → hp_i H' 117 k = hp_i G 117 k := by
  intro n
  induction n with
  | zero =>
    intro i hi fu hf G R
    obtain ⟨fu, rfl⟩ : ∃ x, fu = x + 1 := ⟨fu - 1, by omega⟩
    have e : i = 64 := by omega
    subst e
    refine ⟨G, ?_, fri_rf, fun k h1 h2 => by omega, fun _ _ => rfl⟩
    show b_X11_raced_25 (l_X11_raced_25 fu) 102 (nI 64) G = _
    unfold b_X11_raced_25
    rw [if_pos (by decide)]
  | succ n ih =>
    intro i hi fu hf G R
    obtain ⟨fu, rfl⟩ : ∃ x, fu = x + 1 := ⟨fu - 1, by omega⟩
    obtain ⟨H', y1, y2, y3, y4⟩ := ih (i + 1) (by omega) fu (by omega) (st_i G 117 i 0) (rz_st R)
    refine ⟨H', ?_, fri_tr (fri_st rfl) y2, fun k h1 h2 => ?_, fun k hk => by rw [y4 k (by omega), sti_k (by omega)]⟩
    · show b_X11_raced_25 (l_X11_raced_25 fu) 102 (nI i) G = _
      unfold b_X11_raced_25
      rw [if_neg (fun e => by have := (cmp_N (a := 64) (by omega) (by omega)).mp e; omega)]
      unfold b_X11_raced_31
      rw [rz_r (f := 39) (r := 117) (l := 64) R (by decide), Option.bind_some, rz_s (f := 39) (r := 117) (l := 64) R (by decide) (by omega) (by omega), Option.bind_some, da]
      exact y1
    · by_cases e : k = i
      · subst e
        rw [y4 k (by omega), sti_s]
      · exact y3 k (by omega) h2
def A116 (s r k : Nat) : Prop := (r = 116 ∧ 64 * s ≤ k ∧ k < 64 * s + 64) ∨ (r = 115 ∧ k = s)
theorem l_rz54 {f : Nat → Int32} (h8 : s < 8) : ∀ n i, i + n = 64 → ∀ fu, n < fu → ∀ G, RZ G → hp_i G 102 24 = nI s → hp_i G 117 = f → (∀ k, k < (RLf f i).length → hp_i G 116 (64 * s + k) = nI ((RLf f i).getD k 0)) →
    ∃ H', l_X11_raced_54 fu 102 (nI (RLf f i).length) (nI i) G = some (nI (RLf f 64).length, H') ∧ FRi (A116 s) G H' ∧ (∀ k, k < (RLf f 64).length → hp_i H' 116 (64 * s + k) = nI ((RLf f 64).getD k 0)) ∧ hp_i H' 115 s = nI (RLf f 64).length := by
  intro n
  induction n with
  | zero =>
    intro i hi fu hf G R h24 h117 hL
    obtain ⟨fu, rfl⟩ : ∃ x, fu = x + 1 := ⟨fu - 1, by omega⟩
    have e : i = 64 := by omega
    subst e
    refine ⟨st_i G 115 s (nI (RLf f 64).length), ?_, fri_st (Or.inr ⟨rfl, rfl⟩), fun k hk => by rw [sti_r (by decide)]; exact hL k hk, sti_s⟩
    show b_X11_raced_54 (l_X11_raced_54 fu) 102 (nI (RLf f 64).length) (nI 64) G = _
    unfold b_X11_raced_54
    rw [if_pos (by decide)]
    unfold b_X11_raced_96
    rw [rz_r (f := 37) (r := 115) (l := 8) R (by decide), Option.bind_some, rz_g R, Option.bind_some, h24, rz_s (f := 37) (r := 115) (l := 8) R (by decide) (by omega) (by omega), Option.bind_some]
  | succ n ih =>
    intro i hi fu hf G R h24 h117 hL
    obtain ⟨fu, rfl⟩ : ∃ x, fu = x + 1 := ⟨fu - 1, by omega⟩
    have hlen := rlf_len (f := f) (k := i)
    have head : l_X11_raced_54 (fu + 1) 102 (nI (RLf f i).length) (nI i) G = if f i = 0 then b_X11_raced_69 (l_X11_raced_54 fu) 102 (nI (RLf f i).length) (nI i) G else b_X11_raced_72 (l_X11_raced_54 fu) 102 (nI (RLf f i).length) (nI i) G := by
      show b_X11_raced_54 (l_X11_raced_54 fu) 102 (nI (RLf f i).length) (nI i) G = _
      unfold b_X11_raced_54
      rw [if_neg (fun e => by have := (cmp_N (a := 64) (by omega) (by omega)).mp e; omega)]
      unfold b_X11_raced_60
      rw [rz_r (f := 39) (r := 117) (l := 64) R (by decide), Option.bind_some, rz_l (f := 39) (r := 117) (l := 64) R (by decide) (by omega) (by omega), Option.bind_some, h117]
    rw [head]
    by_cases c : f i = 0
    · rw [if_pos c]
      have e : RLf f (i + 1) = RLf f i := by rw [rlf_s, if_pos c, List.append_nil]
      obtain ⟨H', y1, y2⟩ := ih (i + 1) (by omega) fu (by omega) G R h24 h117 (by rw [e]; exact hL)
      refine ⟨H', ?_, y2⟩
      unfold b_X11_raced_69 b_X11_raced_90
      rw [da, ← e]
      exact y1
    · rw [if_neg c]
      have e : RLf f (i + 1) = RLf f i ++ [i] := by rw [rlf_s, if_neg c]
      have el : (RLf f (i + 1)).length = (RLf f i).length + 1 := by rw [e, List.length_append]; rfl
      obtain ⟨H', y1, y2, y3, y4⟩ := ih (i + 1) (by omega) fu (by omega) (st_i G 116 (64 * s + (RLf f i).length) (nI i)) (rz_st R) (by rw [sti_r (by decide)]; exact h24) (by rw [sti_r (by decide)]; exact h117) (fun k hk => by
        rw [el] at hk
        rw [e]
        by_cases ek : k = (RLf f i).length
        · subst ek
          rw [sti_s, List.getD_eq_getElem?_getD, List.getElem?_append_right (Nat.le_refl _), Nat.sub_self]
          rfl
        · rw [sti_k (by omega), hL k (by omega), List.getD_eq_getElem?_getD, List.getD_eq_getElem?_getD, List.getElem?_append_left (by omega)])
      refine ⟨H', ?_, fri_tr (fri_st (Or.inl ⟨rfl, by omega, by omega⟩)) y2, y3, y4⟩
      unfold b_X11_raced_72
      rw [rz_r (f := 38) (r := 116) (l := 512) R (by decide), Option.bind_some, rz_g R, Option.bind_some, h24, mu, nI_add, rz_s (f := 38) (r := 116) (l := 512) R (by decide) (by omega) (by omega), Option.bind_some]
      unfold b_X11_raced_90
      rw [da, da, ← el]
      exact y1
/-- what raced may change -/
def ARd (s r k : Nat) : Prop := r = 109 ∨ r = 117 ∨ A116 s r k ∨ (r = 102 ∧ (k = 26 ∨ k = 28))
theorem r_raced (P : PR F K te ow rx na nt sz V mo) (R : RZ h) (h8 : s < 8) (h24 : hp_i h 102 24 = nI s) (h27 : hp_i h 102 27 = mo) (hF : ∀ k, k < 900 → hp_i h 106 (900 * s + k) = F k) :
    ∃ f h', b_X11_raced_23 102 h = some (nI (RLf f 64).length, h') ∧ FRi (ARd s) h h' ∧ (∀ k, k < (RLf f 64).length → hp_i h' 116 (64 * s + k) = nI ((RLf f 64).getD k 0)) ∧ hp_i h' 115 s = nI (RLf f 64).length ∧
      ∀ k, k < 64 → (¬ f k = 0 ↔ ∃ i j, i < j ∧ j < na ∧ k = 8 * i + j ∧ ∃ z, Ends (KP K) V 0 z ∧ raC F z i j) := by
  obtain ⟨h1, a1, a2, a3, a4⟩ := l_rz25 64 0 (by omega) fu_ (by decide) h R
  have R1 := fri_rz a2 R
  have c1 : ∀ r k, r ≠ 117 → hp_i h1 r k = hp_i h r k := fun r k hr => a2.2.2.2.2.2.2 r k hr
  have R4 : RZ (st_i (st_i h1 102 28 1) 102 26 (nI 0)) := rz_st (rz_st R1)
  have u : Ur (st_i (st_i h1 102 28 1) 102 26 (nI 0)) F s 0 mo (st_i (st_i h1 102 28 1) 102 26 (nI 0)) := by
    refine ⟨R4, ⟨rz_rh R4, h8, by omega, ?_, sti_s, ?_, fun k hk => ?_⟩, ?_, fri_rf⟩
    · rw [sti_k (by decide), sti_k (by decide), c1 _ _ (by decide)]; exact h24
    · rw [sti_k (by decide), sti_k (by decide), c1 _ _ (by decide)]; exact h27
    · rw [sti_r (by decide), sti_r (by decide), c1 _ _ (by decide)]; exact hF k hk
    · rw [sti_k (by decide), sti_s]
  have q : Qr F na (st_i (st_i h1 102 28 1) 102 26 (nI 0)) [] := fun k hk => by
    rw [sti_r (by decide), sti_r (by decide), a3 k (by omega) hk]
    exact ⟨Or.inl rfl, fun x => absurd x (by decide), fun ⟨i, j, _, _, _, x, hx, _⟩ => (List.not_mem_nil hx).elim⟩
  obtain ⟨h2, M, x1, x2, x3, x4, -⟩ := x_goes P (ve_R (h0 := st_i (st_i h1 102 28 1) 102 26 (nI 0)) P (by omega)) R1 u q
  obtain ⟨u1, u2, u3, u4⟩ := x2
  obtain ⟨h3, y1, y2, y3, y4⟩ := l_rz54 (s := s) (f := hp_i h2 117) h8 64 0 (by omega) fu_ (by decide) h2 u1 u2.2.2.2.1 rfl (fun k hk => absurd hk (Nat.not_lt_zero _))
  refine ⟨hp_i h2 117, h3, ?_, ?_, y3, y4, fun k hk => ?_⟩
  · unfold b_X11_raced_23
    rw [show l_X11_raced_25 fu_ 102 (0 : Int32) h = b_X11_raced_44 102 h1 from a1]
    unfold b_X11_raced_44
    rw [rz_v R1, Option.bind_some, show f_X11_goes 102 (1 : Int32) (0 : Int32) h1 = some h2 from x1, Option.bind_some]
    exact y1
  · refine fri_tr (fri_mono (fun r k c => Or.inr (Or.inl c)) a2) (fri_tr (fri_tr (fri_tr (fri_st (Or.inr (Or.inr (Or.inr ⟨rfl, by omega⟩)))) (fri_st (Or.inr (Or.inr (Or.inr ⟨rfl, by omega⟩))))) (fri_mono (fun r k c => ?_) u4)) (fri_mono (fun r k c => Or.inr (Or.inr (Or.inl c))) y2))
    obtain c | c := c
    · exact Or.inl c
    · exact Or.inr (Or.inl c)
  · obtain ⟨w1, w2⟩ := x3 k hk
    have e1 : ¬ hp_i h2 117 k = 0 ↔ hp_i h2 117 k = 1 := by
      obtain w | w := w1
      · rw [w]; decide
      · rw [w]; decide
    rw [e1, w2]
    constructor
    · rintro ⟨i, j, z1, z2, z3, x, z4, z5⟩
      exact ⟨i, j, z1, z2, z3, x.1, (x4 x.1).mp ⟨x.2, z4⟩, z5⟩
    · rintro ⟨i, j, z1, z2, z3, z, z4, z5⟩
      obtain ⟨q', hq⟩ := (x4 z).mpr z4
      exact ⟨i, j, z1, z2, z3, (z, q'), hq, z5⟩
theorem l_bf64 {a2 a3 : Int32} (h8 : s < 8) : ∀ n i, i + n = 64 → ∀ fu, n < fu → ∀ G, RZ G → hp_i G 102 24 = nI s → ∃ H', l_X11_before_64 fu 102 a2 a3 (nI i) G = b_X11_before_93 102 a2 a3 H' ∧ FRi (A119 s) G H' ∧ (∀ k, i ≤ k → k < 64 → hp_i H' 119 (64 * s + k) = 0) ∧ ∀ k, k < i → hp_i H' 119 (64 * s + k) = hp_i G 119 (64 * s + k) := by
  intro n
  induction n with
  | zero =>
    intro i hi fu hf G R h24
    obtain ⟨fu, rfl⟩ : ∃ x, fu = x + 1 := ⟨fu - 1, by omega⟩
    have e : i = 64 := by omega
    subst e
    refine ⟨G, ?_, fri_rf, fun k h1 h2 => by omega, fun _ _ => rfl⟩
    show b_X11_before_64 (l_X11_before_64 fu) 102 a2 a3 (nI 64) G = _
    unfold b_X11_before_64
    rw [if_pos (by decide)]
  | succ n ih =>
    intro i hi fu hf G R h24
    obtain ⟨fu, rfl⟩ : ∃ x, fu = x + 1 := ⟨fu - 1, by omega⟩
    obtain ⟨H', y1, y2, y3, y4⟩ := ih (i + 1) (by omega) fu (by omega) (st_i G 119 (64 * s + i) 0) (rz_st R) (by rw [sti_r (by decide)]; exact h24)
    refine ⟨H', ?_, fri_tr (fri_st ⟨rfl, by omega, by omega⟩) y2, fun k h1 h2 => ?_, fun k hk => by rw [y4 k (by omega), sti_k (by omega)]⟩
    · show b_X11_before_64 (l_X11_before_64 fu) 102 a2 a3 (nI i) G = _
      unfold b_X11_before_64
      rw [if_neg (fun e => by have := (cmp_N (a := 64) (by omega) (by omega)).mp e; omega)]
      unfold b_X11_before_71
      rw [rz_r (f := 41) (r := 119) (l := 512) R (by decide), Option.bind_some, rz_g R, Option.bind_some, h24, mu, nI_add, rz_s (f := 41) (r := 119) (l := 512) R (by decide) (by omega) (by omega), Option.bind_some, da]
      exact y1
    · by_cases e : k = i
      · subst e
        rw [y4 k (by omega), sti_s]
      · exact y3 k (by omega) h2
/-- what before may change -/
def ABf (s r k : Nat) : Prop := r = 109 ∨ A119 s r k ∨ (r = 118 ∧ k = s) ∨ (r = 102 ∧ (k = 26 ∨ k = 28))
def bqE (P : PA) (V : Nat → Bool) (i j k : Nat) : Prop := (k = 0 ∧ ∃ z, Ends P V 2 z ∧ as_do z i ∧ as_do z j) ∨ (k = 1 ∧ ∃ z, Ends P V 2 z ∧ as_do z i ∧ as_do z j ∧ as_ea z j i) ∨ (k = 2 ∧ ∃ z, Ends P V 2 z ∧ as_do z i ∧ as_do z j ∧ ¬ as_ea z j i)
theorem r_before {a2 a3 : Int32} (P : PR F K te ow rx na nt sz V mo) (R : RZ h) (h8 : s < 8) (h24 : hp_i h 102 24 = nI s) (h27 : hp_i h 102 27 = mo) (hF : ∀ k, k < 900 → hp_i h 106 (900 * s + k) = F k) :
    ∃ h', b_X11_before_61 102 a2 a3 h = b_X11_before_109 102 a2 a3 h' ∧ FRi (ABf s) h h' ∧ (∀ i j, i < na → j < na → mk8 (hp_i h' 119 (64 * s + 8 * i + j)) (bqE (KP K) V i j)) ∧ hp_i h' 118 s = 1 := by
  have hna := P.1.1
  obtain ⟨h1, a1, a2', a3', a4⟩ := l_bf64 (a2 := a2) (a3 := a3) h8 64 0 (by omega) fu_ (by decide) h R h24
  have R1 := fri_rz a2' R
  have c1 : ∀ r k, r ≠ 119 → hp_i h1 r k = hp_i h r k := fun r k hr => a2'.2.2.2.2.2.2 r k (fun c => hr c.1)
  have R4 : RZ (st_i (st_i h1 102 28 3) 102 26 (nI 2)) := rz_st (rz_st R1)
  have u : Ub (st_i (st_i h1 102 28 3) 102 26 (nI 2)) F s 2 mo (st_i (st_i h1 102 28 3) 102 26 (nI 2)) := by
    refine ⟨R4, ⟨rz_rh R4, h8, by omega, ?_, sti_s, ?_, fun k hk => ?_⟩, ?_, fri_rf⟩
    · rw [sti_k (by decide), sti_k (by decide), c1 _ _ (by decide)]; exact h24
    · rw [sti_k (by decide), sti_k (by decide), c1 _ _ (by decide)]; exact h27
    · rw [sti_r (by decide), sti_r (by decide), c1 _ _ (by decide)]; exact hF k hk
    · rw [sti_k (by decide), sti_s]
  have q : Qb s na (st_i (st_i h1 102 28 3) 102 26 (nI 2)) [] := fun i j hi hj => by
    rw [sti_r (by decide), sti_r (by decide), show 64 * s + 8 * i + j = 64 * s + (8 * i + j) by omega, a3' (8 * i + j) (by omega) (by omega)]
    refine mk8_cg (fun k _ => ⟨False.elim, ?_⟩) mk8_0
    rintro (⟨-, x, hx, -⟩ | ⟨-, x, hx, -⟩ | ⟨-, x, hx, -⟩)
    · exact (List.not_mem_nil hx).elim
    · exact (List.not_mem_nil hx).elim
    · exact (List.not_mem_nil hx).elim
  obtain ⟨h2, M, x1, x2, x3, x4, -⟩ := x_goes P (ve_B (h0 := st_i (st_i h1 102 28 3) 102 26 (nI 2)) P (by omega)) R1 u q
  obtain ⟨u1, u2, u3, u4⟩ := x2
  refine ⟨st_i h2 118 s 1, ?_, ?_, fun i j hi hj => ?_, sti_s⟩
  · unfold b_X11_before_61
    rw [show l_X11_before_64 fu_ 102 a2 a3 (0 : Int32) h = b_X11_before_93 102 a2 a3 h1 from a1]
    unfold b_X11_before_93
    rw [rz_v R1, Option.bind_some, show f_X11_goes 102 (3 : Int32) (2 : Int32) h1 = some h2 from x1, Option.bind_some, rz_r (f := 40) (r := 118) (l := 8) u1 (by decide), Option.bind_some, rz_g u1, Option.bind_some, u2.2.2.2.1, rz_s (f := 40) (r := 118) (l := 8) u1 (by decide) (by omega) (by omega), Option.bind_some]
  · refine fri_tr (fri_mono (fun r k c => Or.inr (Or.inl c)) a2') (fri_tr (fri_tr (fri_tr (fri_st (Or.inr (Or.inr (Or.inr ⟨rfl, by omega⟩)))) (fri_st (Or.inr (Or.inr (Or.inr ⟨rfl, by omega⟩))))) (fri_mono (fun r k c => ?_) u4)) (fri_st (Or.inr (Or.inr (Or.inl ⟨rfl, rfl⟩)))))
    obtain c | c := c
    · exact Or.inl c
    · exact Or.inr (Or.inl c)
  · rw [sti_r (by decide)]
    refine mk8_cg (fun k _ => ?_) (x3 i j hi hj)
    have key : ∀ T : AS → Prop, (∃ x, x ∈ M ∧ T x.1) ↔ ∃ z, Ends (KP K) V 2 z ∧ T z := fun T => by
      constructor
      · rintro ⟨x, z1, z2⟩; exact ⟨x.1, (x4 x.1).mp ⟨x.2, z1⟩, z2⟩
      · rintro ⟨z, z1, z2⟩
        obtain ⟨q', hq⟩ := (x4 z).mpr z1
        exact ⟨(z, q'), hq, z2⟩
    unfold bq bqE
    rw [key (fun x => as_do x i ∧ as_do x j), key (fun x => as_do x i ∧ as_do x j ∧ as_ea x j i), key (fun x => as_do x i ∧ as_do x j ∧ ¬ as_ea x j i)]
end
