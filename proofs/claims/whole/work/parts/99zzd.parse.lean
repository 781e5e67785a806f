/-! ===== the two readers together: a whole text ===== -/
section
variable {g : AH} {A : Nat → Nat → Int32}
theorem rb_2 (R : RZ g) : ∀ m f (A : Nat → Nat → Int32), m ≤ 900 → m < f → ∃ A', l_X11_reads_2 f 102 (nI (900 - m)) (sA g A) = b_X11_reads_22 102 (sA g A') ∧ (∀ r q, ¬ (r = 107 ∧ 900 - m ≤ q ∧ q < 900) → A' r q = A r q) ∧ ∀ q, 900 - m ≤ q → q < 900 → A' 107 q = 0 := by
  intro m
  induction m with
  | zero =>
    intro f A _ hf
    obtain ⟨f, rfl⟩ : ∃ f', f = f' + 1 := ⟨f - 1, by omega⟩
    refine ⟨A, ?_, fun _ _ _ => rfl, fun q h1 h2 => by omega⟩
    show b_X11_reads_2 (l_X11_reads_2 f) 102 (nI 900) (sA g A) = _
    unfold b_X11_reads_2
    rw [if_pos (show (900 : Int32) ≤ nI 900 by decide)]
  | succ m ih =>
    intro f A hm hf
    obtain ⟨f, rfl⟩ : ∃ f', f = f' + 1 := ⟨f - 1, by omega⟩
    obtain ⟨A', x1, x2, x3⟩ := ih f (up_2 A 107 (900 - (m + 1)) 0) (by omega) (by omega)
    have e6 : 900 - (m + 1) + 1 = 900 - m := by omega
    refine ⟨A', ?_, fun r q hq => by rw [x2 r q (by omega), u2 (by omega)], fun q h1 h2 => ?_⟩
    · show b_X11_reads_2 (l_X11_reads_2 f) 102 (nI (900 - (m + 1))) (sA g A) = _
      unfold b_X11_reads_2
      rw [if_neg (show ¬ (900 : Int32) ≤ nI (900 - (m + 1)) from nI_ge (b := 900) (by omega) (by omega))]
      unfold b_X11_reads_9
      rw [v_r7 R, Option.bind_some, v_s7 R (by omega), Option.bind_some, da, e6]
      exact x1
    · by_cases q0 : q = 900 - (m + 1)
      · rw [x2 _ _ (by omega), q0, u2s]
      · exact x3 q (by omega) h2
theorem rb_24 (R : RZ g) : ∀ m f (A : Nat → Nat → Int32), m ≤ 6 → m < f → ∃ A', l_X11_reads_24 f 102 (nI (6 - m)) (sA g A) = b_X11_reads_45 102 (sA g A') ∧ (∀ r q, ¬ (r = 107 ∧ 6 - m ≤ q ∧ q < 6) → A' r q = A r q) ∧ ∀ q, 6 - m ≤ q → q < 6 → A' 107 q = -1 := by
  intro m
  induction m with
  | zero =>
    intro f A _ hf
    obtain ⟨f, rfl⟩ : ∃ f', f = f' + 1 := ⟨f - 1, by omega⟩
    refine ⟨A, ?_, fun _ _ _ => rfl, fun q h1 h2 => by omega⟩
    show b_X11_reads_24 (l_X11_reads_24 f) 102 (nI 6) (sA g A) = _
    unfold b_X11_reads_24
    rw [if_pos (show (6 : Int32) ≤ nI 6 by decide)]
  | succ m ih =>
    intro f A hm hf
    obtain ⟨f, rfl⟩ : ∃ f', f = f' + 1 := ⟨f - 1, by omega⟩
    obtain ⟨A', x1, x2, x3⟩ := ih f (up_2 A 107 (6 - (m + 1)) (-1)) (by omega) (by omega)
    have e6 : 6 - (m + 1) + 1 = 6 - m := by omega
    refine ⟨A', ?_, fun r q hq => by rw [x2 r q (by omega), u2 (by omega)], fun q h1 h2 => ?_⟩
    · show b_X11_reads_24 (l_X11_reads_24 f) 102 (nI (6 - (m + 1))) (sA g A) = _
      unfold b_X11_reads_24
      rw [if_neg (show ¬ (6 : Int32) ≤ nI (6 - (m + 1)) from nI_ge (b := 6) (by omega) (by omega))]
      unfold b_X11_reads_30
      rw [v_r7 R, Option.bind_some, ad, Nat.zero_add, v_s7 R (by omega), Option.bind_some, da, e6]
      exact x1
    · by_cases q0 : q = 6 - (m + 1)
      · rw [x2 _ _ (by omega), q0, u2s]
      · exact x3 q (by omega) h2
theorem rb_47 (R : RZ g) : ∀ m f (A : Nat → Nat → Int32), m ≤ 5 → m < f → ∃ A', l_X11_reads_47 f 102 (nI (5 - m)) (sA g A) = b_X11_reads_65 102 (sA g A') ∧ (∀ r q, ¬ (r = 108 ∧ 5 - m ≤ q ∧ q < 5) → A' r q = A r q) ∧ ∀ q, 5 - m ≤ q → q < 5 → A' 108 q = -1 := by
  intro m
  induction m with
  | zero =>
    intro f A _ hf
    obtain ⟨f, rfl⟩ : ∃ f', f = f' + 1 := ⟨f - 1, by omega⟩
    refine ⟨A, ?_, fun _ _ _ => rfl, fun q h1 h2 => by omega⟩
    show b_X11_reads_47 (l_X11_reads_47 f) 102 (nI 5) (sA g A) = _
    unfold b_X11_reads_47
    rw [if_pos (show (5 : Int32) ≤ nI 5 by decide)]
  | succ m ih =>
    intro f A hm hf
    obtain ⟨f, rfl⟩ : ∃ f', f = f' + 1 := ⟨f - 1, by omega⟩
    obtain ⟨A', x1, x2, x3⟩ := ih f (up_2 A 108 (5 - (m + 1)) (-1)) (by omega) (by omega)
    have e6 : 5 - (m + 1) + 1 = 5 - m := by omega
    refine ⟨A', ?_, fun r q hq => by rw [x2 r q (by omega), u2 (by omega)], fun q h1 h2 => ?_⟩
    · show b_X11_reads_47 (l_X11_reads_47 f) 102 (nI (5 - (m + 1))) (sA g A) = _
      unfold b_X11_reads_47
      rw [if_neg (show ¬ (5 : Int32) ≤ nI (5 - (m + 1)) from nI_ge (b := 5) (by omega) (by omega))]
      unfold b_X11_reads_52
      rw [v_r8 R, Option.bind_some, v_s8 R (by omega), Option.bind_some, da, e6]
      exact x1
    · by_cases q0 : q = 5 - (m + 1)
      · rw [x2 _ _ (by omega), q0, u2s]
      · exact x3 q (by omega) h2
/-- the reference's tape -/
def RTp (A : Nat → Nat → Int32) (tp : Nat → Nat) (n : Nat) : Prop := A 102 3 = nI n ∧ n ≤ 1000 ∧ (∀ k, k < n → tp k < 256) ∧ (∀ k, k < n → A 103 k = nI (tp k)) ∧ ∃ l, l < 5 ∧ A 102 22 = nI l
theorem r_begin {tp : Nat → Nat} {n : Nat} (R : RZ g) (T : RTp A tp n) : ∃ A1, f_X11_reads 102 (sA g A) = l_X11_reads_97 fu_ 102 (sA g A1) ∧ DRf A tp n A1 A1 0 (fun _ => -1) ∧ D1 A1 ∧ (∀ k, 6 ≤ k → k < 900 → k ≠ 11 → A1 107 k = 0) ∧ A1 107 11 = -1 ∧ ∀ l, l < 5 → A1 108 l = -1 := by
  obtain ⟨t3, hn, hb, ht, l, l1, l2⟩ := T
  obtain ⟨B1, x1, x2, x3⟩ := rb_2 R 900 fu_ A (by omega) (by unfold fu_; omega)
  obtain ⟨B2, y1, y2, y3⟩ := rb_24 R 6 fu_ B1 (by omega) (by unfold fu_; omega)
  obtain ⟨B3, z1, z2, z3⟩ := rb_47 R 5 fu_ B2 (by omega) (by unfold fu_; omega)
  have k3 : ∀ r q, r ≠ 107 → r ≠ 108 → B3 r q = A r q := fun r q h1 h2 => by rw [z2 _ _ (by omega), y2 _ _ (by omega), x2 _ _ (by omega)]
  generalize hB4 : up_2 (up_2 (up_2 (up_2 (up_2 B3 107 11 (-1)) 102 15 0) 102 11 0) 102 12 (-1)) 102 5 0 = B4
  have k4 : ∀ r q, ¬ (r = 107 ∧ q = 11) → ¬ (r = 102 ∧ (q = 5 ∨ q = 11 ∨ q = 12 ∨ q = 15)) → B4 r q = B3 r q := fun r q h1 h2 => by
    rw [← hB4, u2 (by omega), u2 (by omega), u2 (by omega), u2 (by omega), u2 (by omega)]
  obtain ⟨f', w1, w2, w3, w4, w5⟩ := x_look (h := sA g B4) (f := B4 102) (i := 0) (sA_rz R) ⟨hn, hb, fun k hk => by show B4 103 k = _; rw [k4 _ _ (by omega) (by omega), k3 _ _ (by omega) (by omega)]; exact ht k hk⟩ (by rw [k4 _ _ (by omega) (by omega), k3 _ _ (by omega) (by omega)]; exact t3) (by rw [← hB4]; exact u2s) (by omega)
  have e1 : sI (sA g B4) 102 (B4 102) = sA g B4 := sI_eta (h := sA g B4) (r := 102)
  rw [e1] at w1
  have ek : ∀ r k, ¬ (r = 102 ∧ (k = 5 ∨ k = 6 ∨ k = 7)) → uR B4 102 f' r k = B4 r k := fun r k hk => by
    unfold uR
    by_cases c : r = 102
    · rw [if_pos c, c]; exact w5 k (fun e => hk ⟨c, by omega⟩) (fun e => hk ⟨c, by omega⟩) (fun e => hk ⟨c, by omega⟩)
    · rw [if_neg c]
  have e7 : ∀ k, k ≠ 11 → uR B4 102 f' 107 k = B2 107 k := fun k hk => by rw [ek _ _ (by omega), k4 _ _ (by omega) (by omega), z2 _ _ (by omega)]
  have z7 : ∀ k, 6 ≤ k → k < 900 → k ≠ 11 → uR B4 102 f' 107 k = 0 := fun k h1 h2 h3 => by
    rw [e7 k h3, y2 _ _ (by omega)]; exact x3 k (by omega) h2
  refine ⟨uR B4 102 f', ?_, ⟨⟨⟨?_, ?_, ?_, ?_⟩, hn, hb, fun k hk => ?_, fun r k h1 h2 h3 => ?_, l, l1, ?_⟩, fun c hc => ?_, fun _ _ _ _ => rfl⟩, ⟨?_, ?_, z7 6 (by omega) (by omega) (by omega), z7 7 (by omega) (by omega) (by omega), z7 12 (by omega) (by omega) (by omega)⟩, z7, ?_, fun l hl => ?_⟩
  · unfold f_X11_reads b_X11_reads_0
    rw [show l_X11_reads_2 fu_ 102 (0 : Int32) (sA g A) = _ from x1]
    unfold b_X11_reads_22
    rw [show l_X11_reads_24 fu_ 102 (0 : Int32) (sA g B1) = _ from y1]
    unfold b_X11_reads_45
    rw [show l_X11_reads_47 fu_ 102 (0 : Int32) (sA g B2) = _ from z1]
    unfold b_X11_reads_65
    rw [v_r7 R, Option.bind_some, show s_i (sA g B3) 107 (11 : Int32) (-1 : Int32) = _ from v_s7 (k := 11) R (by omega), Option.bind_some, v_p R, Option.bind_some, v_p R, Option.bind_some, v_p R, Option.bind_some, v_p R, Option.bind_some, v_v R, Option.bind_some, hB4, w1, Option.bind_some]
    rfl
  · rw [ek _ _ (by omega), k4 _ _ (by omega) (by omega), k3 _ _ (by omega) (by omega)]; exact t3
  · rw [uR_s]; exact w4
  · rw [uR_s]; exact w2
  · rw [uR_s]; exact w3
  · rw [ek _ _ (by omega), k4 _ _ (by omega) (by omega), k3 _ _ (by omega) (by omega)]; exact ht k hk
  · rw [ek _ _ (by omega), k4 _ _ (by omega) (by omega), k3 _ _ h1 h2]
  · rw [ek _ _ (by omega), k4 _ _ (by omega) (by omega), k3 _ _ (by omega) (by omega)]; exact l2
  · rw [e7 c (by omega)]; exact y3 c (by omega) hc
  · rw [ek _ _ (by omega), ← hB4, u2 (by omega), u2 (by omega), u2s]
  · rw [ek _ _ (by omega), ← hB4, u2 (by omega), u2 (by omega), u2 (by omega), u2s]
  · rw [ek _ _ (by omega), ← hB4, u2 (by omega), u2 (by omega), u2 (by omega), u2 (by omega), u2s]
  · rw [ek _ _ (by omega), k4 _ _ (by omega) (by omega)]; exact z3 l (by omega) hl
end
section
variable {Z Z2 : Nat → Nat → Int32} {tp : Nat → Nat} {n cnt B : Nat} {h g : AH} {A A2 A0 A1 : Nat → Nat → Int32} {j : Nat} {kd : Nat → Int32}
/-- before the first thread -/
theorem ts0 (hB : 126 ≤ B) (S : DS Z B tp n cnt A0 A j kd) (S2 : DRf Z2 tp n A1 A2 j kd) (D : D1 A1) (a8 : A0 68 8 = 0) (aw : ∀ l, l < 8 → A0 71 l = -1) (ac : A0 B 10 = 0 ∧ A0 B 11 = 0 ∧ A0 B 12 = 0 ∧ A0 B 13 = 0 ∧ A0 B 14 = 0 ∧ A0 B 15 = 0 ∧ A0 B 16 = -1 ∧ A0 B 17 = -1)
    (z7 : ∀ k, 6 ≤ k → k < 900 → k ≠ 11 → A1 107 k = 0) (z11 : A1 107 11 = -1) (z8 : ∀ l, l < 5 → A1 108 l = -1) : TSt Z Z2 tp n cnt B j kd A A2 0 j 0 [] [] [] (fun _ => -1) 0 0 (-1) (-1) := by
  obtain ⟨⟨s1, s2, s3, s4, s5, s6, s7⟩, sk, sf⟩ := S
  obtain ⟨rt, rk, rf⟩ := S2
  have em : ∀ (P : Nat → Prop), ∀ t, t < 0 → P t := fun P t ht => absurd ht (by omega)
  refine ⟨fun th hd l6 l7 => ?_, fun th hd l6 l7 => ?_, ⟨⟨0, by omega, rfl⟩, fun l hl z => absurd rfl z⟩, ⟨em _, ⟨em _, fun m m' h1 h2 => absurd h2 (by show ¬ m' < 0; omega)⟩, em _, ⟨fun z => absurd rfl z, Or.inl rfl, Or.inl rfl⟩, fun l hl => Or.inl rfl⟩, ⟨by show 0 ≤ _; omega, by omega, by show 0 ≤ _; omega, by omega⟩, (fun x hx => by cases hx), rfl, rfl, rfl, fun _ => rfl, fun z => absurd z (Nat.lt_irrefl _), fun t ht => absurd ht (Nat.not_lt_zero _)⟩
  · have hk : ∀ r k, ¬ (r = 68 ∧ (k = 6 ∨ k = 7)) → up_2 (up_2 A 68 6 (nI th)) 68 7 (nI hd) r k = A r k := fun r k hk => by rw [u2 (by omega), u2 (by omega)]
    have e69 : up_2 (up_2 A 68 6 (nI th)) 68 7 (nI hd) 69 = A 69 := by funext k; exact hk 69 k (by omega)
    have e70 : up_2 (up_2 A 68 6 (nI th)) 68 7 (nI hd) 70 = A 70 := by funext k; exact hk 70 k (by omega)
    have kB : ∀ k, up_2 (up_2 A 68 6 (nI th)) 68 7 (nI hd) B k = A0 B k := fun k => by rw [hk _ _ (by omega), sf _ _ (by omega) (by omega)]
    refine ⟨⟨by rw [e69]; exact s1, by rw [e70]; exact s2, s3, s4, fun k hk' => by rw [hk _ _ (by omega)]; exact s5 k hk', s6, fun r k hr => by rw [hk _ _ (by omega)]; exact s7 r k hr⟩, ⟨by rw [u2 (by omega), u2s], u2s, by rw [hk _ _ (by omega), sf _ _ (by omega) (by omega)]; exact a8⟩, fun l hl => by rw [hk _ _ (by omega), sf _ _ (by omega) (by omega)]; exact aw l (by omega), ?_, em _, em _, em _, fun c hc => by rw [hk _ _ (by omega)]; exact sk c hc, by show 0 ≤ _; omega, by show 0 ≤ _; omega, by show 0 ≤ _; omega, by omega, l6, l7, by omega⟩
    rw [kB, kB, kB, kB, kB, kB, kB, kB]
    exact ac
  · have hk : ∀ r k, ¬ (r = 102 ∧ 17 ≤ k ∧ k ≤ 20) → up_2 (up_2 (up_2 (up_2 A2 102 17 (nI th)) 102 18 (nI hd)) 102 19 (nI 0)) 102 20 (if (-1 : Int32) ≠ -1 ∧ (-1 : Int32) = nI th then 1 else 0) r k = A2 r k := fun r k hk => by
      rw [u2 (by omega), u2 (by omega), u2 (by omega), u2 (by omega)]
    have k7 : ∀ k, 6 ≤ k → up_2 (up_2 (up_2 (up_2 A2 102 17 (nI th)) 102 18 (nI hd)) 102 19 (nI 0)) 102 20 (if (-1 : Int32) ≠ -1 ∧ (-1 : Int32) = nI th then 1 else 0) 107 k = A1 107 k := fun k h6 => by rw [hk _ _ (by omega), rf _ _ (by omega) (by omega)]
    refine ⟨rt_cg rt (fun r k k1 k2 k3 => hk r k (by omega)), ⟨by rw [hk _ _ (by omega), rf _ _ (by omega) (by omega)]; exact D.1, by rw [hk _ _ (by omega), rf _ _ (by omega) (by omega)]; exact D.2.1, by rw [u2 (by omega), u2 (by omega), u2 (by omega), u2s], by rw [u2 (by omega), u2 (by omega), u2s], by rw [u2 (by omega), u2s], u2s⟩, fun l hl => by rw [hk _ _ (by omega), rf _ _ (by omega) (by omega)]; exact z8 l hl, ?_, fun c hc => by rw [hk _ _ (by omega)]; exact rk c hc, em _, em _, em _, ⟨fun _ => rfl, fun z => absurd z (by show ¬ 0 < 0; omega), by omega, em _⟩, by show 0 ≤ _; omega, by show 0 ≤ _; omega, by show 0 ≤ _; omega, by omega, l6, l7, by omega⟩
    rw [k7 _ (by omega), k7 _ (by omega), k7 _ (by omega), k7 _ (by omega), k7 _ (by omega), k7 _ (by omega), k7 _ (by omega)]
    exact ⟨z7 6 (by omega) (by omega) (by omega), z7 7 (by omega) (by omega) (by omega), z7 8 (by omega) (by omega) (by omega), z7 9 (by omega) (by omega) (by omega), ⟨z7 10 (by omega) (by omega) (by omega), 0, by omega, rfl⟩, z11, z7 12 (by omega) (by omega) (by omega)⟩
/-- a whole text -/
theorem parse (C : CH h) (R : RZ g) (hn : n ≤ 1000) (hb : ∀ k, k < n → tp k < 256) (ht : ∀ k, k < n → hp_i h 65 k = nI (tp k)) (T : RTp A2 tp n) : ∃ H cnt j0 kd, CQ H (hp_n h) ∧ GB h H (hp_n h) ∧ hp_i H (hp_n h + 11) 6 = 0 ∧
    ((PG (zC h H) A2 tp n cnt (hp_n h) j0 H g kd (f_X6_read 68 65 (nI n) h) (f_X11_reads 102 (sA g A2)) ∧ KDI kd) ∨ PBd (zC h H) A2 (hp_n h) H g tp n (f_X6_read 68 65 (nI n) h) (f_X11_reads 102 (sA g A2))) := by
  have hB := C.2.2.2.2.2
  obtain ⟨H, cnt, x1, Q, x2, ⟨x3, x4, x5, x6⟩, x7, x8⟩ := c_begin C hn hb ht
  obtain ⟨A1, y1, y2, y3, y4, y5, y6⟩ := r_begin R T
  have e0 : f_X6_read 68 65 (nI n) h = (f_X6_readDeclarations 68 (sA H (hp_i H))).bind fun q4 => l_X6_read_14 fu_ 68 q4.1 (0 : Int32) q4.2 := by
    unfold f_X6_read b_X6_read_0
    rw [show ok_v h 68 6 = some () from if_pos C.1.1, Option.bind_some, x1, Option.bind_some, show ok_v H 68 6 = some () from if_pos Q.1.1, Option.bind_some]
    rfl
  have S0 : DS (zC h H) (hp_n h) tp n cnt (hp_i H) (hp_i H) 0 (fun _ => -1) := ⟨x2, fun c hc => x5 c hc, fun _ _ _ _ => rfl⟩
  have K0 : KDI (fun _ => -1) := ⟨by decide, fun c _ => Or.inl rfl⟩
  rw [e0, y1]
  have fb : (200000 : Nat) = fu_ := rfl
  obtain ⟨A', A2', j', kd', g1, g2, g3, g4, g5, g6⟩ | ⟨K1, p1, A', A2', g1, g2, g3, g4⟩ := d_all (Z := zC h H) (Z2 := A2) (tp := tp) (n := n) (cnt := cnt) (B := hp_n h) (A0 := hp_i H) (A1 := A1) Q R y3 1001 fu_ fu_ 0 (hp_i H) A1 0 (fun _ => -1) (by omega) (by omega) (by omega) (by omega) (by omega) S0 y2 K0
  · refine ⟨H, cnt, j', kd', Q, x8, x6, ?_⟩
    have T0 := ts0 hB g3 g4 y3 x3 x4 x7 y4 y5 y6
    unfold f_X6_readDeclarations b_X6_readDeclarations_0
    rw [show l_X6_readDeclarations_2 fu_ 68 (0 : Int32) (sA H (hp_i H)) = _ from g1, Option.bind_some, g2]
    exact (thr (Z := zC h H) (Z2 := A2) (cnt := cnt) (kd := kd') Q R g6 5 fu_ fu_ A' A2' 0 j' 0 [] [] [] (fun _ => -1) 0 0 (-1) (-1) (by show 4 - 0 < 5; omega) (by omega) (by omega) T0).imp (fun z => ⟨z, g5⟩) id
  · refine ⟨H, cnt, 0, fun _ => -1, Q, x8, x6, Or.inr ⟨K1, p1, A', A2', ?_, g2, g3, g4⟩⟩
    unfold f_X6_readDeclarations b_X6_readDeclarations_0
    rw [show l_X6_readDeclarations_2 fu_ 68 (0 : Int32) (sA H (hp_i H)) = _ from g1, Option.bind_some]
    obtain ⟨f, hf⟩ : ∃ f, fu_ = f + 1 := ⟨199999, rfl⟩
    rw [hf]
    show b_X6_read_14 (l_X6_read_14 f) 68 0 0 (sA H A') = _
    unfold b_X6_read_14 b_X6_read_20
    rw [if_pos rfl, ite_self]
    exact c_r76 Q
end
