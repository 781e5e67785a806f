/-! ===== the reference's rows; outcome; its sorted lists ===== -/
/-- only these ints may have changed -/
def FRi (A : Nat → Nat → Prop) (h h' : AH) : Prop := hp_n h' = hp_n h ∧ hp_s h' = hp_s h ∧ hp_k h' = hp_k h ∧ hp_l h' = hp_l h ∧ hp_j h' = hp_j h ∧ hp_r h' = hp_r h ∧ ∀ r k, ¬ A r k → hp_i h' r k = hp_i h r k
/-- the reference's rows: field, row, length -/
def rzL : List (Nat × Nat × Nat) := [(1, 103, 1000), (2, 104, 2400), (9, 106, 7200), (10, 107, 900), (16, 108, 5), (25, 109, 2840), (29, 110, 51200), (30, 111, 25), (32, 112, 5), (33, 113, 8), (34, 114, 8), (37, 115, 8), (38, 116, 512), (39, 117, 64), (40, 118, 8), (41, 119, 512), (42, 120, 800), (43, 121, 800), (44, 122, 4), (45, 123, 4), (46, 124, 4)]
def RZ (h : AH) : Prop := ok_o h 102 11 ∧ (∀ x, x ∈ rzL → hp_r h 102 x.1 = x.2.1 ∧ ok_o h x.2.1 100 ∧ hp_l h x.2.1 = x.2.2) ∧ hp_r h 102 8 = 105 ∧ ok_o h 105 101 ∧ hp_l h 105 = 9 ∧ (hp_j h 105 0 = 482854660462 ∧ hp_j h 105 1 = 8534158984711072869 ∧ hp_j h 105 2 = 439855505772 ∧ hp_j h 105 3 = 127991944667492 ∧ hp_j h 105 4 = 1819239275 ∧ hp_j h 105 5 = 129117126091627 ∧ hp_j h 105 6 = 1685024357 ∧ hp_j h 105 7 = 26982 ∧ hp_j h 105 8 = 1701606245)
section
variable {A B : Nat → Nat → Prop} {h h1 h2 : AH} {f r l k : Nat} {v : Int32}
theorem fri_rf : FRi A h h := ⟨rfl, rfl, rfl, rfl, rfl, rfl, fun _ _ _ => rfl⟩
theorem fri_tr (a : FRi A h h1) (b : FRi A h1 h2) : FRi A h h2 := by
  obtain ⟨a1, a2, a3, a4, a5, a6, a7⟩ := a
  obtain ⟨b1, b2, b3, b4, b5, b6, b7⟩ := b
  exact ⟨b1.trans a1, b2.trans a2, b3.trans a3, b4.trans a4, b5.trans a5, b6.trans a6, fun r k hk => (b7 r k hk).trans (a7 r k hk)⟩
theorem fri_mono (hAB : ∀ r k, A r k → B r k) (a : FRi A h h1) : FRi B h h1 := by
  obtain ⟨a1, a2, a3, a4, a5, a6, a7⟩ := a
  exact ⟨a1, a2, a3, a4, a5, a6, fun r k hk => a7 r k (fun x => hk (hAB r k x))⟩
theorem fri_st (hA : A r k) : FRi A h (st_i h r k v) := ⟨rfl, rfl, rfl, rfl, rfl, rfl, fun r' k' hn => by
  show up_2 (hp_i h) r k v r' k' = _
  unfold up_2
  rw [if_neg (fun e => hn (by rw [e.1, e.2]; exact hA))]⟩
theorem fri_sR {d : Nat} {g : Nat → Int32} (hA : ∀ k, A 109 k) : FRi A h (sR h d g) := ⟨rfl, rfl, rfl, rfl, rfl, rfl, fun r k hn => by
  by_cases c : r = 109
  · subst c; exact absurd (hA k) hn
  · rw [sR_i c]⟩
theorem fri_ok {c : Nat} (a : FRi A h h1) (o : ok_o h r c) : ok_o h1 r c := ⟨o.1, by rw [a.1]; exact o.2.1, by rw [a.2.2.1]; exact o.2.2⟩
theorem fri_rz (a : FRi A h h1) (R : RZ h) : RZ h1 := by
  obtain ⟨r1, r2, r3, r4, r5, r6⟩ := R
  refine ⟨fri_ok a r1, fun x hx => ?_, ?_, fri_ok a r4, ?_, ?_⟩
  · obtain ⟨y1, y2, y3⟩ := r2 x hx
    exact ⟨by rw [a.2.2.2.2.2.1]; exact y1, fri_ok a y2, by rw [a.2.2.2.1]; exact y3⟩
  · rw [a.2.2.2.2.2.1]; exact r3
  · rw [a.2.2.2.1]; exact r5
  · rw [a.2.2.2.2.1]; exact r6
theorem rz_rh (R : RZ h) : RH h := ⟨R.1, R.2.1 (25, 109, 2840) (by decide), R.2.1 (9, 106, 7200) (by decide)⟩
theorem rz_r (R : RZ h) (hx : (f, r, l) ∈ rzL) : g_r h 102 11 f = some r := by
  have e : hp_r h 102 f = r := (R.2.1 _ hx).1
  rw [← e]
  exact if_pos R.1
theorem rz_g (R : RZ h) : g_i h 102 11 f = some (hp_i h 102 f) := if_pos R.1
theorem rz_p (R : RZ h) : p_i h 102 11 f v = some (st_i h 102 f v) := if_pos R.1
theorem rz_v (R : RZ h) : ok_v h 102 11 = some () := if_pos R.1
theorem rz_l (R : RZ h) (hx : (f, r, l) ∈ rzL) (hk : k < l) (hl : l ≤ 51200) : l_i h r (nI k) = some (hp_i h r k) := l_iN (R.2.1 _ hx).2.1 (by rw [(R.2.1 _ hx).2.2]; exact hk) (by omega)
theorem rz_s (R : RZ h) (hx : (f, r, l) ∈ rzL) (hk : k < l) (hl : l ≤ 51200) : s_i h r (nI k) v = some (st_i h r k v) := s_iN (R.2.1 _ hx).2.1 (by rw [(R.2.1 _ hx).2.2]; exact hk) (by omega)
theorem rz_st (R : RZ h) : RZ (st_i h r k v) := fri_rz (A := fun r' k' => r' = r ∧ k' = k) (fri_st ⟨rfl, rfl⟩) R
end
/-- the reference's number of an outcome -/
def nd10 (v : Nat → Nat) (s : Nat) : Nat := 16 * ((((v 0 * 10 + v 1) * 10 + v 2) * 10 + v 3) * 10 + v 4) + s
def oR (ow : Nat → Nat) (nt : Nat) (s : AS) : Int32 := nI (nd10 (av ow nt s) (ast s nt))
def vacc (v : Nat → Nat) : Nat → Nat → Nat → Nat
  | 0, _, x => x
  | n + 1, i, x => vacc v n (i + 1) (10 * x + v i)
section
variable {h H : AH} {d s o t w : Nat} {g F : Nat → Int32} {mo : Int32} {K : Nat → Nat → Int32} {te ow rx : Nat → Nat} {na nt sz : Nat} {V : Nat → Bool} {a : AS} {p : List Nat}
theorem dr_av (D : DR K te ow rx na nt sz o V g a p) {l : Nat} (hl : l < 5) : g (4 + l) = nI (av ow nt a l) ∧ av ow nt a l ≤ 9 := by
  unfold av
  by_cases c : ow l < nt
  · rw [if_pos c]
    obtain ⟨e, T, -⟩ := D.1 (ow l) c
    obtain ⟨h1, v, v9, h2⟩ := T.2.2.2.1 l hl rfl
    rw [h1, h2, ix_nI (by omega)]
    exact ⟨rfl, v9⟩
  · rw [if_neg c]
    exact ⟨D.2.1 l hl (by omega), by omega⟩
theorem l_out1 (E : RE H s F o mo) (hd : d < 20) {v : Nat → Nat} (hv : ∀ l, l < 5 → rowv H d (4 + l) = nI (v l)) : ∀ n, n ≤ 5 → ∀ fu, n < fu → ∀ x, l_X11_outcome_4 fu 102 (nI d) (nI x) (nI (5 - n)) H = b_X11_outcome_29 102 (nI d) (nI (vacc v n (5 - n) x)) H := by
  intro n
  induction n with
  | zero =>
    intro _ fu hf x
    obtain ⟨fu, rfl⟩ : ∃ f, fu = f + 1 := ⟨fu - 1, by omega⟩
    show b_X11_outcome_4 (l_X11_outcome_4 fu) 102 (nI d) (nI x) (nI 5) H = _
    unfold b_X11_outcome_4
    rw [if_pos (by decide)]
    rfl
  | succ n ih =>
    intro hn fu hf x
    obtain ⟨fu, rfl⟩ : ∃ f, fu = f + 1 := ⟨fu - 1, by omega⟩
    show b_X11_outcome_4 (l_X11_outcome_4 fu) 102 (nI d) (nI x) (nI (5 - (n + 1))) H = _
    unfold b_X11_outcome_4
    rw [if_neg (fun e => by have := (cmp_N (a := 5) (b := 5 - (n + 1)) (by omega) (by omega)).mp e; omega)]
    unfold b_X11_outcome_9
    rw [x_ok E, Option.bind_some, ad, x_st E hd (by omega), Option.bind_some, hv _ (by omega), mu, nI_add, da, show 5 - (n + 1) + 1 = 5 - n by omega, ih (by omega) fu (by omega)]
    show _ = b_X11_outcome_29 102 (nI d) (nI (vacc v n (5 - (n + 1) + 1) (10 * x + v (5 - (n + 1))))) H
    rw [show 5 - (n + 1) + 1 = 5 - n by omega]
theorem l_out2 (P : PR F K te ow rx na nt sz V mo) (E : RE H s F o mo) (hd : d < 20) (D : DR K te ow rx na nt sz o V (rowv H d) a p) (x : Int32) : ∀ n, n ≤ nt → ∀ fu, n < fu → l_X11_outcome_34 fu 102 (nI d) x (nI (ast a (nt - n))) (nI (nt - n)) H = some ((16 : Int32) * x + nI (ast a nt), H) := by
  have Z := P.1
  have hna := Z.1
  have hnt := Z.2.1
  have hsz := Z.2.2.1
  have e7 : f_X11_of 102 (7 : Int32) H = some (nI nt, H) := by rw [← P.2.2.1]; exact x_of (k := 7) E (by omega)
  intro n
  induction n with
  | zero =>
    intro _ fu hf
    obtain ⟨fu, rfl⟩ : ∃ f, fu = f + 1 := ⟨fu - 1, by omega⟩
    show b_X11_outcome_34 (l_X11_outcome_34 fu) 102 (nI d) x (nI (ast a nt)) (nI nt) H = _
    unfold b_X11_outcome_34
    rw [x_ok E, Option.bind_some, e7, Option.bind_some, if_pos ((cmp_N (by omega) (by omega)).mpr (Nat.le_refl _))]
    rfl
  | succ n ih =>
    intro hn fu hf
    obtain ⟨fu, rfl⟩ : ∃ f, fu = f + 1 := ⟨fu - 1, by omega⟩
    generalize hi : nt - (n + 1) = i
    have i1 : i + 1 = nt - n := by omega
    have hit : i < nt := by omega
    have lt := ast_lt a i
    have p8 : 2 ^ i ≤ 8 := Nat.pow_le_pow_right (n := 2) (by decide) (show i ≤ 3 by omega)
    have z : (0 : Int32) + nI i = nI i := by rw [ad, Nat.zero_add]
    show b_X11_outcome_34 (l_X11_outcome_34 fu) 102 (nI d) x (nI (ast a i)) (nI i) H = _
    unfold b_X11_outcome_34
    rw [x_ok E, Option.bind_some, e7, Option.bind_some, if_neg (fun e => by have := (cmp_N (by omega) (by omega)).mp e; omega)]
    unfold b_X11_outcome_45
    obtain ⟨e, T, c⟩ := D.1 i hit
    have he := T.2.1
    have rb := P.2.2.2.2.2.2.1 e (by omega)
    have rI := P.2.2.2.2.2.1 e he
    rw [x_ok E, Option.bind_some, z, x_st E hd (by omega), Option.bind_some, T.1, x_ok E, Option.bind_some, show f_X11_instr 102 (nI (rx e)) (0 : Int32) H = _ from x_ins (k := 0) E (by omega), Option.bind_some]
    have ih' := ih (by omega) fu (by omega)
    rw [← i1] at ih'
    obtain ⟨c1, c2⟩ | ⟨c1, c2, c3⟩ := c
    · have F9 := (rI.2.1 (by rw [c1]; decide)).2
      rw [if_pos c1] at F9
      rw [if_pos F9]
      unfold b_X11_outcome_65 b_X11_outcome_73
      have ea : ast a (i + 1) = ast a i := by
        show ast a i + (if xa_nx a i = 8 then 0 else 2 ^ i) = _
        rw [if_pos c2]; rfl
      rw [ea] at ih'
      rw [show nI (ast a i) ||| (0 : Int32) = nI (ast a i) by rw [show (0 : Int32) = nI 0 from rfl, nI_or (by omega) (by omega), Nat.or_zero], da]
      exact ih'
    · obtain ⟨e'', op, b1, b2, b3, b4, -⟩ := an_f P c1
      have ee : e'' = e := by rw [c3, nI_eq (by omega) (by omega)] at b2; exact b2.symm
      subst ee
      have F9 := (rI.2.1 (by rw [b3, show (9 : Int32) = nI 9 from rfl, nI_eq (by omega) (by omega)]; omega)).2
      rw [if_neg (by rw [b3, show (10 : Int32) = nI 10 from rfl, nI_eq (by omega) (by omega)]; omega), b3] at F9
      rw [if_neg (by show ¬ F (60 + 5 * rx e'' + 0) = 9; rw [F9, show (9 : Int32) = nI 9 from rfl, nI_eq (by omega) (by omega)]; omega)]
      unfold b_X11_outcome_69 b_X11_outcome_73
      have ea : ast a (i + 1) = ast a i + 2 ^ i := by
        show ast a i + (if xa_nx a i = 8 then 0 else 2 ^ i) = _
        rw [if_neg (by omega)]
      have eo : ast a i ||| 2 ^ i = ast a i + 2 ^ i := by
        have := Nat.two_pow_add_eq_or_of_lt lt 1
        rw [Nat.mul_one] at this
        rw [Nat.or_comm, ← this, Nat.add_comm]
      rw [ea] at ih'
      rw [nI_one (by omega), nI_or (by omega) (by omega), eo, da]
      exact ih'
theorem nd_lt {v : Nat → Nat} {s : Nat} (hv : ∀ l, l < 5 → v l ≤ 9) (hs : s < 16) : nd10 v s < 1600000 := by
  unfold nd10
  have := hv 0 (by omega); have := hv 1 (by omega); have := hv 2 (by omega); have := hv 3 (by omega); have := hv 4 (by omega)
  omega
theorem x_out (P : PR F K te ow rx na nt sz V mo) (E : RE H s F o mo) (hd : d < 20) (D : DR K te ow rx na nt sz o V (rowv H d) a p) : f_X11_outcome 102 (nI d) H = some (oR ow nt a, H) := by
  have hnt := P.1.2.1
  have a1 := l_out1 (v := av ow nt a) E hd (fun l hl => (dr_av D hl).1) 5 (Nat.le_refl _) fu_ (by decide) 0
  have a2 := l_out2 P E hd D (nI (vacc (av ow nt a) 5 0 0)) nt (Nat.le_refl _) fu_ (by show nt < 200000; omega)
  rw [Nat.sub_self] at a2
  unfold f_X11_outcome b_X11_outcome_0
  refine a1.trans ?_
  unfold b_X11_outcome_29
  refine a2.trans ?_
  rw [mu, nI_add]
  have e1 : 16 * vacc (av ow nt a) 5 0 0 + ast a nt = nd10 (av ow nt a) (ast a nt) := by
    show 16 * (10 * (10 * (10 * (10 * (10 * 0 + av ow nt a 0) + av ow nt a 1) + av ow nt a 2) + av ow nt a 3) + av ow nt a 4) + ast a nt = 16 * ((((av ow nt a 0 * 10 + av ow nt a 1) * 10 + av ow nt a 2) * 10 + av ow nt a 3) * 10 + av ow nt a 4) + ast a nt
    omega
  exact congrArg (fun n => some (nI n, H)) e1
end
/-! the insertion into a list -/
section
variable {h : AH} {li : Nat} {M : List Int32} {x : Int32}
/-- list li of the reference is M -/
def LI (h : AH) (li : Nat) (M : List Int32) : Prop := hp_i h 111 li = nI M.length ∧ RowIs (fun i => hp_i h 110 (2048 * li + i)) M ∧ srt M ∧ M.length ≤ 1024
theorem dv_2 {n : Nat} (h : n < 2 ^ 31) : dv_i (nI n) (2 : Int32) = some (nI (n / 2)) := by
  show (if (2 : Int32) = 0 then none else some (nI n / 2)) = _
  rw [if_neg (by decide), show (2 : Int32) = nI 2 from rfl, pk_div h (by omega) (by omega)]
theorem i2k (n : Nat) : (2048 : Int32) * nI li + nI n = nI (2048 * li + n) := by rw [mu, nI_add]
theorem l_bs (R : RZ h) (hli : li < 25) (h31 : hp_i h 102 31 = nI li) (I : LI h li M) : ∀ (m lo hi : Nat), lo ≤ hi → hi ≤ M.length → hi - lo < 2 ^ m → (∀ i, i < lo → M.getD i 0 < x) → (∀ i, hi ≤ i → i < M.length → x ≤ M.getD i 0) → ∀ fu, m < fu → ∃ k, l_X11_lists_12 fu 102 x (nI lo) (nI hi) h = b_X11_lists_58 102 x (nI k) h ∧ Bel M x k := by
  obtain ⟨i1, i2, i3, i4⟩ := I
  intro m
  induction m with
  | zero =>
    intro lo hi h1 h2 h3 h4 h5 fu hf
    obtain ⟨fu, rfl⟩ : ∃ f, fu = f + 1 := ⟨fu - 1, by omega⟩
    have : lo = hi := by omega
    subst this
    refine ⟨lo, ?_, h2, h4, h5⟩
    show b_X11_lists_12 (l_X11_lists_12 fu) 102 x (nI lo) (nI lo) h = _
    unfold b_X11_lists_12
    rw [if_pos (Int32.le_refl _)]
  | succ m ih =>
    intro lo hi h1 h2 h3 h4 h5 fu hf
    obtain ⟨fu, rfl⟩ : ∃ f, fu = f + 1 := ⟨fu - 1, by omega⟩
    show ∃ k, b_X11_lists_12 (l_X11_lists_12 fu) 102 x (nI lo) (nI hi) h = _ ∧ _
    unfold b_X11_lists_12
    by_cases hlt : lo = hi
    · subst hlt
      rw [if_pos (Int32.le_refl _)]
      exact ⟨lo, rfl, h2, h4, h5⟩
    · rw [if_neg (nI_ge (by omega) (by omega))]
      unfold b_X11_lists_17
      have hp : 2 ^ (m + 1) = 2 * 2 ^ m := by rw [Nat.pow_succ, Nat.mul_comm]
      rw [nI_add, dv_2 (by omega), Option.bind_some, rz_r (f := 29) (r := 110) (l := 51200) R (by decide), Option.bind_some, rz_g R, Option.bind_some, h31, i2k, rz_l (f := 29) (r := 110) (l := 51200) R (by decide) (by omega) (by omega), Option.bind_some, show hp_i h 110 (2048 * li + (lo + hi) / 2) = M.getD ((lo + hi) / 2) 0 from i2 _ (by omega)]
      by_cases hx : x ≤ M.getD ((lo + hi) / 2) 0
      · rw [if_pos hx]
        unfold b_X11_lists_52 b_X11_lists_55
        refine ih lo ((lo + hi) / 2) (by omega) (by omega) (by omega) h4 (fun i a b => ?_) fu (by omega)
        by_cases e : i = (lo + hi) / 2
        · rw [e]; exact hx
        · have := srt_get M i3 ((lo + hi) / 2) i (by omega) b
          rw [i_lt] at this
          rw [i_le] at hx ⊢
          omega
      · rw [if_neg hx]
        unfold b_X11_lists_44 b_X11_lists_55
        rw [nI_1]
        have hx' : M.getD ((lo + hi) / 2) 0 < x := by
          rw [i_lt]
          rw [i_le] at hx
          omega
        refine ih ((lo + hi) / 2 + 1) hi (by omega) (by omega) (by omega) (fun i a => ?_) h5 fu (by omega)
        by_cases e : i = (lo + hi) / 2
        · rw [e]; exact hx'
        · have := srt_get M i3 i ((lo + hi) / 2) (by omega) (by omega)
          rw [i_lt] at this hx' ⊢
          omega
/-- what an insertion may change -/
def AL1 (li : Nat) (r k : Nat) : Prop := (r = 110 ∧ 2048 * li ≤ k ∧ k < 2048 * li + 2048) ∨ (r = 111 ∧ k = li)
theorem l_sh {f : Nat → Int32} {n k : Nat} (hli : li < 25) (hn : n ≤ 1024) (x : Int32) : ∀ (m : Nat), k + m ≤ n → ∀ (fu : Nat) (g : AH), m < fu → RZ g → hp_i g 102 31 = nI li → (∀ j, j ≤ k + m → hp_i g 110 (2048 * li + j) = f j) → (∀ j, k + m < j → j ≤ n → hp_i g 110 (2048 * li + j) = f (j - 1)) →
    ∃ g', l_X11_lists_102 fu 102 x (nI k) (nI (k + m)) g = some g' ∧ FRi (AL1 li) g g' ∧ (∀ j, j < k → hp_i g' 110 (2048 * li + j) = f j) ∧ hp_i g' 110 (2048 * li + k) = x ∧ (∀ j, k < j → j ≤ n → hp_i g' 110 (2048 * li + j) = f (j - 1)) ∧ hp_i g' 111 li = hp_i g 111 li + 1 := by
  intro m
  induction m with
  | zero =>
    intro hm fu g hf R h31 c1 c2
    obtain ⟨fu, rfl⟩ : ∃ f, fu = f + 1 := ⟨fu - 1, by omega⟩
    have R1 : RZ (st_i g 110 (2048 * li + k) x) := rz_st R
    have e31 : hp_i (st_i g 110 (2048 * li + k) x) 102 31 = nI li := by rw [sti_r (by decide)]; exact h31
    refine ⟨st_i (st_i g 110 (2048 * li + k) x) 111 li (hp_i g 111 li + 1), ?_, fri_tr (fri_st (Or.inl ⟨rfl, by omega, by omega⟩)) (fri_st (Or.inr ⟨rfl, rfl⟩)), fun j hj => ?_, ?_, fun j h1 h2 => ?_, sti_s⟩
    · show b_X11_lists_102 (l_X11_lists_102 fu) 102 x (nI k) (nI (k + 0)) g = _
      unfold b_X11_lists_102
      rw [if_pos (nI_le (by omega) (by omega))]
      unfold b_X11_lists_148
      rw [rz_r (f := 29) (r := 110) (l := 51200) R (by decide), Option.bind_some, rz_g R, Option.bind_some, h31, i2k, rz_s (f := 29) (r := 110) (l := 51200) R (by decide) (by omega) (by omega), Option.bind_some, rz_r (f := 30) (r := 111) (l := 25) R1 (by decide), Option.bind_some, rz_g R1, Option.bind_some, e31, rz_l (f := 30) (r := 111) (l := 25) R1 (by decide) (by omega) (by omega), Option.bind_some, rz_s (f := 30) (r := 111) (l := 25) R1 (by decide) (by omega) (by omega), Option.bind_some, sti_r (by decide)]
    · rw [sti_r (by decide), sti_k (by omega)]; exact c1 j (by omega)
    · rw [sti_r (by decide), sti_s]
    · rw [sti_r (by decide), sti_k (by omega)]; exact c2 j (by omega) h2
  | succ m ih =>
    intro hm fu g hf R h31 c1 c2
    obtain ⟨fu, rfl⟩ : ∃ f, fu = f + 1 := ⟨fu - 1, by omega⟩
    obtain ⟨g', q1, q2, q3, q4, q5, q6⟩ := ih (by omega) fu (st_i g 110 (2048 * li + (k + (m + 1))) (hp_i g 110 (2048 * li + (k + m)))) (by omega) (rz_st R) (by rw [sti_r (by decide)]; exact h31) (fun j hj => by rw [sti_k (by omega)]; exact c1 j (by omega)) (fun j h1 h2 => by
      by_cases e : j = k + (m + 1)
      · rw [e, sti_s, c1 (k + m) (by omega)]; rfl
      · rw [sti_k (by omega)]; exact c2 j (by omega) h2)
    refine ⟨g', ?_, fri_tr (fri_st (Or.inl ⟨rfl, by omega, by omega⟩)) q2, q3, q4, q5, by rw [q6, sti_r (by decide)]⟩
    show b_X11_lists_102 (l_X11_lists_102 fu) 102 x (nI k) (nI (k + (m + 1))) g = _
    unfold b_X11_lists_102
    rw [if_neg (nI_ge (by omega) (by omega))]
    unfold b_X11_lists_108
    have im : nI (2048 * li + (k + (m + 1))) - (1 : Int32) = nI (2048 * li + (k + m)) := by rw [nI_m1 (by omega)]; congr 1
    rw [rz_r (f := 29) (r := 110) (l := 51200) R (by decide), Option.bind_some, rz_g R, Option.bind_some, Option.bind_some, Option.bind_some, h31, i2k, im, rz_l (f := 29) (r := 110) (l := 51200) R (by decide) (by omega) (by omega), Option.bind_some, rz_s (f := 29) (r := 110) (l := 51200) R (by decide) (by omega) (by omega), Option.bind_some, show nI (k + (m + 1)) + -1 = nI (k + m) from pk_m1 (k + m)]
    exact q1
theorem x_lists (R : RZ h) (hli : li < 25) (h31 : hp_i h 102 31 = nI li) (I : LI h li M) (hb : (rins x M).length ≤ 1024) : ∃ h', f_X11_lists 102 x h = some h' ∧ FRi (AL1 li) h h' ∧ LI h' li (rins x M) := by
  have I' := I
  obtain ⟨i1, i2, i3, i4⟩ := I
  obtain ⟨k, k1, k2⟩ := l_bs (x := x) R hli h31 I' 12 0 M.length (Nat.zero_le _) (Nat.le_refl _) (by omega) (fun i hi => absurd hi (Nat.not_lt_zero _)) (fun i a b => by omega) fu_ (by decide)
  have hk := k2.1
  unfold f_X11_lists b_X11_lists_0
  rw [rz_r (f := 30) (r := 111) (l := 25) R (by decide), Option.bind_some, rz_g R, Option.bind_some, h31, rz_l (f := 30) (r := 111) (l := 25) R (by decide) (by omega) (by omega), Option.bind_some, i1]
  have k1' : l_X11_lists_12 fu_ 102 x (0 : Int32) (nI M.length) h = b_X11_lists_58 102 x (nI k) h := k1
  rw [k1']
  unfold b_X11_lists_58
  rw [rz_r (f := 30) (r := 111) (l := 25) R (by decide), Option.bind_some, rz_g R, Option.bind_some, h31, rz_l (f := 30) (r := 111) (l := 25) R (by decide) (by omega) (by omega), Option.bind_some, i1]
  have go : x ∉ M → ∃ h', b_X11_lists_91 102 x (nI k) h = some h' ∧ FRi (AL1 li) h h' ∧ LI h' li (rins x M) := fun hx => by
    unfold b_X11_lists_91
    rw [rz_r (f := 30) (r := 111) (l := 25) R (by decide), Option.bind_some, rz_g R, Option.bind_some, h31, rz_l (f := 30) (r := 111) (l := 25) R (by decide) (by omega) (by omega), Option.bind_some, i1]
    obtain ⟨g', q1, q2, q3, q4, q5, q6⟩ := l_sh (f := fun j => hp_i h 110 (2048 * li + j)) (n := M.length) (k := k) hli i4 x (M.length - k) (by omega) fu_ h (by unfold fu_; omega) R h31 (fun j _ => rfl) (fun j h1 h2 => by omega)
    rw [show k + (M.length - k) = M.length by omega] at q1
    obtain ⟨c1, c2, c3, c4⟩ := rins_get M k k2 hx
    refine ⟨g', q1, q2, ?_, fun i hi => ?_, rins_srt M i3, hb⟩
    · rw [q6, i1, nI_1, c1]
    · rw [c1] at hi
      show hp_i g' 110 (2048 * li + i) = _
      by_cases h1 : i < k
      · rw [q3 i h1, c2 i h1]; exact i2 i (by omega)
      · by_cases h2 : i = k
        · rw [h2, q4, c3]
        · rw [q5 i (by omega) (by omega), c4 i (by omega) (by omega)]; exact i2 (i - 1) (by omega)
  by_cases c : M.length ≤ k
  · rw [if_pos (nI_le c (by omega))]
    refine go (fun hx => ?_)
    have := (bel_mem i3 k2).mp hx
    omega
  · rw [if_neg (nI_ge (by omega) (by omega))]
    unfold b_X11_lists_71
    rw [rz_r (f := 29) (r := 110) (l := 51200) R (by decide), Option.bind_some, rz_g R, Option.bind_some, h31, i2k, rz_l (f := 29) (r := 110) (l := 51200) R (by decide) (by omega) (by omega), Option.bind_some, show hp_i h 110 (2048 * li + k) = M.getD k 0 from i2 k (by omega)]
    by_cases c2 : M.getD k 0 = x
    · rw [if_pos c2]
      have hx : x ∈ M := (bel_mem i3 k2).mpr ⟨by omega, c2⟩
      refine ⟨h, rfl, fri_rf, ?_⟩
      rw [rins_eq M i3 hx]
      exact I'
    · rw [if_neg c2]
      refine go (fun hx => c2 ((bel_mem i3 k2).mp hx).2)
end
