/-! ===== a whole search: what it leaves behind ===== -/
def QW (h : AH) (pr r : Nat) : Prop := r = 74 ∨ r = 75 ∨ r = 76 ∨ r = 77 ∨ r = 78 ∨ r = 90 ∨ r = 95 ∨ r = 97 ∨ r = 98 ∨ r = pr ∨ S4 h r ∨ r = hp_r h 95 0
def pot (h : AH) : Nat := hp_l h (hp_r h 90 3) + hp_l h (hp_r h 95 0)
def pot8 (h : AH) : Nat := 8 * hp_l h (hp_r h 90 3) + 2 * hp_l h (hp_r h 95 0)
def FQ (h h' : AH) (pr : Nat) : Prop :=
  hp_n h ≤ hp_n h' ∧ (∀ r, r < hp_n h → hp_k h' r = hp_k h r ∧ hp_l h' r = hp_l h r) ∧
  (∀ r, r < hp_n h → ¬ QW h pr r → hp_i h' r = hp_i h r ∧ hp_j h' r = hp_j h r ∧ hp_r h' r = hp_r h r) ∧
  (hp_r h' pr = hp_r h pr ∧ hp_i h' pr = hp_i h pr) ∧ (∀ k, k ≠ 6 → k ≠ 8 → k ≠ 11 → hp_i h' 74 k = hp_i h 74 k) ∧
  (hp_r h' 90 3 = hp_r h 90 3 ∨ hp_n h ≤ hp_r h' 90 3) ∧ (hp_r h' 95 0 = hp_r h 95 0 ∨ hp_n h ≤ hp_r h' 95 0) ∧
  hp_n h' + pot h ≤ hp_n h + pot h' ∧ hp_s h' + pot8 h ≤ hp_s h + pot8 h'
theorem hb_after {h s1 h2 : AH} {tn : Nat} {K : Nat → Nat → Int32} {co pr goal : Nat} {M : List Int32} (H : HB h tn) (htn : tn + 2 < 2 ^ 30) (F : FB h s1) (hs : hp_i s1 90 4 = nI (tn + 1)) (B : BS s1 K co pr goal) (C : CG s1 h2 pr M) : HB h2 (tn + 1) ∧ FQ h h2 pr := by
  have h4 := cg_s4 B C
  have hr := cg_row B C
  have bn := bs_ne B
  have Fs := fs_sf B C.1
  obtain ⟨⟨t1, t2, t3, t4, t5, t6⟩, ⟨u1, u2, u3, u4⟩, ⟨L, S⟩, ⟨M0, O⟩, ⟨p1, p2⟩, ⟨w1, w2⟩, d1, ⟨d2, d3, d4, d5, d6⟩, ⟨d7, d8, d9, d10, d11⟩, d12, d13, d14⟩ := H
  obtain ⟨f1, f2, f3, f4, f5, f6, f7, f8, f9⟩ := F
  obtain ⟨⟨c1, c2, c3, c4, c5, c6, c7, c8, c9, c10⟩, Oc, L2, S2, n1, n2⟩ := C
  have e90 : hp_r s1 90 = hp_r h 90 := f7 90 (by decide) (by decide)
  have e95 : hp_r s1 95 = hp_r h 95 := f7 95 (by decide) (by decide)
  have e75 : ∀ k, k ≠ 7 → True := fun _ _ => trivial
  have B' := B
  obtain ⟨Mr, Sf, -, -, wb, hsw, -⟩ := B
  have ok2 : ∀ r c, ok_o h r c → ok_o h2 r c := fun r c o => ⟨o.1, by have := o.2.1; omega, by rw [(c2 r (by have := o.2.1; omega)).1, f3]; exact o.2.2⟩
  have l2 : ∀ r, r < hp_n h → hp_l h2 r = hp_l h r := fun r hrn => by rw [(c2 r (by omega)).2, f4]
  have r74 : ∀ k, k ≠ 7 → hp_r h2 74 k = hp_r h 74 k := fun k hk => by rw [c4.1]; exact f8 k hk
  have ft : hp_r h2 90 3 = hp_r h 90 3 ∨ hp_n h ≤ hp_r h2 90 3 := by
    obtain e | e := c7 3 (by omega)
    · rw [e, e90]; exact Or.inl rfl
    · exact Or.inr (by omega)
  have fr : hp_r h2 95 0 = hp_r h 95 0 ∨ hp_n h ≤ hp_r h2 95 0 := by
    obtain e | e := c9
    · rw [e, e95]; exact Or.inl rfl
    · exact Or.inr (by omega)
  have n98 := w1.2.1
  have lt : hp_l h2 (hp_r h2 90 3) = L2 := S2.2.2.2.2.1.2
  have ltu : hp_l s1 (hp_r s1 90 3) = hp_l h (hp_r h 90 3) := by rw [f4, e90]
  have lro : hp_l s1 (hp_r s1 95 0) = hp_l h (hp_r h 95 0) := by rw [f4, e95]
  rw [ltu, lro] at n1 n2
  constructor
  · refine ⟨⟨ok2 _ _ t1, ?_, ?_, ?_, ?_, ?_⟩, ⟨ok2 _ _ u1, ⟨?_, ok2 _ _ u2.2.1, ?_⟩, ⟨?_, ok2 _ _ u3.2.1, ?_⟩, ⟨?_, ok2 _ _ u4.2.1, ?_⟩⟩, ⟨L2, ?_⟩, ⟨M, Oc⟩, ⟨ok2 _ _ p1, ?_⟩, ⟨ok2 _ _ w1, ?_⟩, c10, ⟨?_, ?_, ?_, ?_, ?_⟩, ⟨?_, ?_, ?_, ?_, ?_⟩, ?_, htn, ?_⟩
    · rw [r74 0 (by decide)]; exact t2
    · rw [r74 1 (by decide)]; exact t3
    · rw [r74 2 (by decide)]; exact t4
    · rw [r74 3 (by decide)]; exact t5
    · rw [r74 4 (by decide)]; exact t6
    · rw [c5.1]; exact Mr.2.2.2.2.2.1.1
    · rw [l2 76 (by omega)]; exact u2.2.2
    · rw [c5.1]; exact Mr.2.2.2.2.2.2.1.1
    · rw [l2 77 (by omega)]; exact u3.2.2
    · rw [c5.1]; exact Mr.2.2.2.2.2.2.2.1.1
    · rw [l2 78 (by omega)]; exact u4.2.2
    · obtain ⟨s1', s2', s3', s4', s5', s6', s7', s8', s9', s10'⟩ := S2
      exact ⟨s1', s2', s3', s4', s5', s6', s7', s8', s9'⟩
    · rw [l2 97 (by omega)]; exact p2
    · rw [l2 98 (by omega)]; exact w2
    · obtain e | e := ft
      · rw [e]; exact d2
      · omega
    · obtain e | e := ft
      · rw [e]; exact d3
      · omega
    · obtain e | e := ft
      · rw [e]; exact d4
      · omega
    · obtain e | e := ft
      · rw [e]; exact d5
      · omega
    · obtain e | e := ft
      · rw [e]; exact d6
      · omega
    · obtain e | e := fr
      · rw [e]; exact d7
      · omega
    · obtain e | e := fr
      · rw [e]; exact d8
      · omega
    · obtain e | e := fr
      · rw [e]; exact d9
      · omega
    · obtain e | e := fr
      · rw [e]; exact d10
      · omega
    · obtain e | e := fr
      · rw [e]; exact d11
      · omega
    · rw [c8, hs]
    · obtain ⟨tx, x1, x2, x3, x4⟩ := S2.2.2.2.2.2.2.2.2.2
      rw [c8, hs, nI_eq (by omega) (by omega)] at x1
      rw [x1]; exact x4
  · refine ⟨by omega, fun r hrn => ⟨by rw [(c2 r (by omega)).1, f3], l2 r hrn⟩, fun r hrn nq => ?_, ⟨?_, ?_⟩, fun k k6 k8 k11 => ?_, ft, fr, ?_, ?_⟩
    · have x74 : r ≠ 74 := fun e => nq (Or.inl e)
      have x75 : r ≠ 75 := fun e => nq (Or.inr (Or.inl e))
      have x76 : r ≠ 76 := fun e => nq (Or.inr (Or.inr (Or.inl e)))
      have x77 : r ≠ 77 := fun e => nq (Or.inr (Or.inr (Or.inr (Or.inl e))))
      have x78 : r ≠ 78 := fun e => nq (Or.inr (Or.inr (Or.inr (Or.inr (Or.inl e)))))
      have x90 : r ≠ 90 := fun e => nq (Or.inr (Or.inr (Or.inr (Or.inr (Or.inr (Or.inl e))))))
      have ns : ¬ SW s1 pr r := by
        unfold SW S4
        rw [e90, e95]
        rintro (e | e | e | e | e | e | e | e)
        · exact x74 e
        · exact x75 e
        · exact nq (Or.inr (Or.inr (Or.inr (Or.inr (Or.inr (Or.inr (Or.inl e)))))))
        · exact nq (Or.inr (Or.inr (Or.inr (Or.inr (Or.inr (Or.inr (Or.inr (Or.inl e))))))))
        · exact nq (Or.inr (Or.inr (Or.inr (Or.inr (Or.inr (Or.inr (Or.inr (Or.inr (Or.inl e)))))))))
        · exact nq (Or.inr (Or.inr (Or.inr (Or.inr (Or.inr (Or.inr (Or.inr (Or.inr (Or.inr (Or.inl e))))))))))
        · exact nq (Or.inr (Or.inr (Or.inr (Or.inr (Or.inr (Or.inr (Or.inr (Or.inr (Or.inr (Or.inr (Or.inl e)))))))))))
        · exact nq (Or.inr (Or.inr (Or.inr (Or.inr (Or.inr (Or.inr (Or.inr (Or.inr (Or.inr (Or.inr (Or.inr e)))))))))))
      obtain ⟨g1, g2, g3⟩ := c3 r (by omega) ns
      exact ⟨g1.trans (f5 r x74 x75 x76 x77 x78 x90), g2.trans (f6 r x75), g3.trans (f7 r x74 x75)⟩
    · rw [c6.1]; exact f7 pr bn.1 bn.2.1
    · rw [c6.2]
      have kp : hp_k s1 pr = 5 := Sf.2.2.2.2.2.2.2.2.1.2.2
      have y76 : pr ≠ 76 := fun e => by rw [e, Mr.2.2.2.2.2.1.2.1.2.2] at kp; omega
      have y77 : pr ≠ 77 := fun e => by rw [e, Mr.2.2.2.2.2.2.1.2.1.2.2] at kp; omega
      have y78 : pr ≠ 78 := fun e => by rw [e, Mr.2.2.2.2.2.2.2.1.2.1.2.2] at kp; omega
      exact f5 pr bn.1 bn.2.1 y76 y77 y78 bn.2.2.1
    · rw [c4.2 k k6 k11]; exact f9 k k8 k11
    · unfold pot
      rw [lt]
      omega
    · unfold pot8
      rw [lt]
      omega
/-! the runs' ends, as the mid picture has them -/
def Ends (P : PA) (V : Nat → Bool) (o : Nat) (z : AS) : Prop := ∃ p, xa_ph P V o p (xa_0 P) z ∧ xa_end P V z
section
variable {K : Nat → Nat → Int32} {te ow : Nat → Nat} {na nt sz oc goal : Nat}
theorem lv_ends (Z : KW K te ow na nt sz) (S : KS K na nt oc) : (∀ y, y ∈ lv K nt goal 17 (m_bg K nt 0 0, 0, 0) → ∃ z, Ends (KP K) (kv K) (ao oc) z ∧ DC K ow nt oc y.1 y.2.1 y.2.2 z ∧ xa_in (KP K) (ao oc) z) ∧ (∀ z, Ends (KP K) (kv K) (ao oc) z → ∃ y, y ∈ lv K nt goal 17 (m_bg K nt 0 0, 0, 0) ∧ DC K ow nt oc y.1 y.2.1 y.2.2 z ∧ xa_in (KP K) (ao oc) z) := by
  constructor
  · intro y hy
    obtain ⟨z, q, R, e⟩ := lv_sound Z S 17 _ _ _ (ra_0 Z) y hy
    exact ⟨z, ⟨q, R.1, e⟩, R.2, (ra_in Z R).1⟩
  · rintro z ⟨p, hp, e⟩
    have r0 := (rc_0 (oc := oc) Z).2
    obtain ⟨y, p', hy, R⟩ := lv_complete (goal := goal) Z S 17 _ _ _ (ra_0 Z) (by rw [r0]) z p hp e
    exact ⟨y, hy, R.2, (ra_in Z R).1⟩
/-- the list that LIST gathers -/
theorem fold_L {oc : Nat} : ∀ (l : List KY) (a : AL) (z : Int32), z ∈ (l.foldl (fun a x => fnL K oc a x 0 (fun _ => 0)) a).1.1 ↔ z ∈ a.1.1 ∨ ∃ y, y ∈ l ∧ z = m_out K y.1 := by
  intro l
  induction l with
  | nil => intro a z; exact ⟨Or.inl, fun h => h.elim id (fun ⟨y, h, _⟩ => nomatch h)⟩
  | cons x l ih =>
    intro a z
    show z ∈ (l.foldl _ (fnL K oc a x 0 (fun _ => 0))).1.1 ↔ _
    rw [ih]
    show z ∈ rins (m_out K x.1) a.1.1 ∨ _ ↔ _
    rw [rins_mem]
    constructor
    · rintro ((h | h) | ⟨y, h1, h2⟩)
      · exact Or.inr ⟨x, List.mem_cons_self, h⟩
      · exact Or.inl h
      · exact Or.inr ⟨y, List.mem_cons_of_mem _ h1, h2⟩
    · rintro (h | ⟨y, h1, h2⟩)
      · exact Or.inl (Or.inr h)
      · obtain h1 | h1 := List.mem_cons.mp h1
        · subst h1; exact Or.inl (Or.inl h2)
        · exact Or.inr ⟨y, h1, h2⟩
theorem lor_b {a b : Int64} {k : Nat} : fd (a ||| b) k 1 = 1 ↔ fd a k 1 = 1 ∨ fd b k 1 = 1 := by
  have h : ∀ T : Int64, fd T k 1 = 1 ↔ T.toBitVec.toNat.testBit k = true := fun T => by
    have := fd_tb (T := T) (k := k) (w := 1) (i := 0)
    rw [decide_eq_true (by omega), Bool.true_and, Nat.add_zero] at this
    rw [← this]
    obtain e | e := fd_b (T := T) (k := k)
    · rw [e]; decide
    · rw [e]; decide
  rw [h, h, h]
  show (a.toBitVec ||| b.toBitVec).toNat.testBit k = true ↔ _
  rw [BitVec.toNat_or, Nat.testBit_or, Bool.or_eq_true]
theorem land_b {a b : Int64} {k : Nat} (hk : k < 64) : fd (a &&& (b ^^^ (-1 : Int64))) k 1 = 1 ↔ fd a k 1 = 1 ∧ ¬ fd b k 1 = 1 := by
  have h : ∀ T : Int64, fd T k 1 = 1 ↔ T.toBitVec.toNat.testBit k = true := fun T => by
    have := fd_tb (T := T) (k := k) (w := 1) (i := 0)
    rw [decide_eq_true (by omega), Bool.true_and, Nat.add_zero] at this
    rw [← this]
    obtain e | e := fd_b (T := T) (k := k)
    · rw [e]; decide
    · rw [e]; decide
  rw [h, h, h]
  show (a.toBitVec &&& (b.toBitVec ^^^ (-1 : Int64).toBitVec)).toNat.testBit k = true ↔ _
  rw [BitVec.toNat_and, BitVec.toNat_xor, Nat.testBit_and, Nat.testBit_xor, show (-1 : Int64).toBitVec.toNat = 2 ^ 64 - 1 from by decide, Nat.testBit_two_pow_sub_one, decide_eq_true hk, Bool.xor_true]
  cases a.toBitVec.toNat.testBit k <;> cases b.toBitVec.toNat.testBit k <;> decide
/-- the pairs of actions that are done -/
theorem prs_b {T : Int64} : ∀ (n : Nat), n ≤ 8 → ∀ (x : Int64) (a b : Nat), a < 8 → b < 8 → (fd (m_pl (m_do T) n (8 - n) x) (8 * b + a) 1 = 1 ↔ fd x (8 * b + a) 1 = 1 ∨ (8 - n ≤ b ∧ d_do T a = 1 ∧ d_do T b = 1)) := by
  intro n
  induction n with
  | zero => intro _ x a b ha hb; exact ⟨Or.inl, fun h => h.elim id (fun h => by omega)⟩
  | succ n ih =>
    intro hn x a b ha hb
    unfold m_pl
    rw [show 8 - (n + 1) + 1 = 8 - n by omega, ih (by omega) _ a b ha hb]
    have hf := fd_lt (T := T) (k := 47) (w := 8)
    have hbit : ∀ i, i < 8 → ((fd T 47 8).testBit i = true ↔ d_do T i = 1) := fun i hi => fd_1 hi
    rw [q_do]
    by_cases c : (fd T 47 8).testBit (8 - (n + 1)) = true
    · rw [if_neg (by rw [nI_bit0 (by omega) (by omega), c]; exact Bool.noConfusion), show (8 : Int32) * nI (8 - (n + 1)) = nI (8 * (8 - (n + 1))) from pk_mul 8 _]
      have hv : (nI (fd T 47 8)).toInt64.toBitVec.toNat = fd T 47 8 := lg_nI (by omega)
      by_cases e : b = 8 - (n + 1)
      · subst e
        have : fd (m_or x (nI (fd T 47 8)).toInt64 (nI (8 * (8 - (n + 1))))) (8 * (8 - (n + 1)) + a) 1 = 1 ↔ fd x (8 * (8 - (n + 1)) + a) 1 = 1 ∨ d_do T a = 1 := by
          rw [← fd_1 ha, fd_or2 (by omega) (by omega) (by rw [hv]; exact hf), hv, tb_or, fd_1 ha, hbit a ha]
        rw [this]
        have cb := (hbit _ hb).mp c
        constructor
        · rintro ((h | h) | h)
          · exact Or.inl h
          · exact Or.inr ⟨Nat.le_refl _, h, cb⟩
          · omega
        · rintro (h | ⟨h1, h2, h3⟩)
          · exact Or.inl (Or.inl h)
          · exact Or.inl (Or.inr h2)
      · rw [fd_or_ne (w := 8) (by rw [hv]; exact hf) (by omega) (by omega)]
        constructor
        · rintro (h | ⟨h1, h2⟩)
          · exact Or.inl h
          · exact Or.inr ⟨by omega, h2⟩
        · rintro (h | ⟨h1, h2⟩)
          · exact Or.inl h
          · exact Or.inr ⟨by omega, h2⟩
    · rw [if_pos (by rw [nI_bit0 (by omega) (by omega)]; exact Bool.eq_false_iff.mpr c)]
      constructor
      · rintro (h | ⟨h1, h2⟩)
        · exact Or.inl h
        · exact Or.inr ⟨by omega, h2⟩
      · rintro (h | ⟨h1, h2, h3⟩)
        · exact Or.inl h
        · by_cases e : b = 8 - (n + 1)
          · subst e; exact absurd ((hbit _ hb).mpr h3) c
          · exact Or.inr ⟨by omega, h2, h3⟩
theorem fold_L2 : ∀ (l : List KY) (a : AL) (i j : Nat), i < 8 → j < 8 →
    (fd (l.foldl (fun a x => fnL K 2 a x 0 (fun _ => 0)) a).2.1 (8 * j + i) 1 = 1 ↔ fd a.2.1 (8 * j + i) 1 = 1 ∨ ∃ y, y ∈ l ∧ d_do y.1 i = 1 ∧ d_do y.1 j = 1) ∧
    (fd (l.foldl (fun a x => fnL K 2 a x 0 (fun _ => 0)) a).2.2.1 (8 * j + i) 1 = 1 ↔ fd a.2.2.1 (8 * j + i) 1 = 1 ∨ ∃ y, y ∈ l ∧ d_ea y.2.2 j i = 1) ∧
    (fd (l.foldl (fun a x => fnL K 2 a x 0 (fun _ => 0)) a).2.2.2 (8 * j + i) 1 = 1 ↔ fd a.2.2.2 (8 * j + i) 1 = 1 ∨ ∃ y, y ∈ l ∧ (d_do y.1 i = 1 ∧ d_do y.1 j = 1) ∧ ¬ d_ea y.2.2 j i = 1) := by
  intro l
  induction l with
  | nil =>
    intro a i j _ _
    exact ⟨⟨Or.inl, fun h => h.elim id (fun ⟨y, h, _⟩ => nomatch h)⟩, ⟨Or.inl, fun h => h.elim id (fun ⟨y, h, _⟩ => nomatch h)⟩, ⟨Or.inl, fun h => h.elim id (fun ⟨y, h, _⟩ => nomatch h)⟩⟩
  | cons x l ih =>
    intro a i j hi hj
    obtain ⟨h1, h2, h3⟩ := ih (fnL K 2 a x 0 (fun _ => 0)) i j hi hj
    have e1 : (fnL K 2 a x 0 (fun _ => 0)).2 = (a.2.1 ||| m_prs x.1, a.2.2.1 ||| x.2.2, a.2.2.2 ||| (m_prs x.1 &&& (x.2.2 ^^^ (-1 : Int64)))) := by unfold fnL; rw [if_pos rfl]
    rw [e1] at h1 h2 h3
    have hp : fd (m_prs x.1) (8 * j + i) 1 = 1 ↔ d_do x.1 i = 1 ∧ d_do x.1 j = 1 := by
      have := prs_b (T := x.1) 8 (Nat.le_refl 8) 0 i j hi hj
      rw [Nat.sub_self, fd_0] at this
      unfold m_prs
      rw [this]
      exact ⟨fun h => h.elim (fun h => by omega) (fun h => h.2), fun h => Or.inr ⟨Nat.zero_le _, h⟩⟩
    have c : ∀ Q : KY → Prop, (∃ y, y ∈ x :: l ∧ Q y) ↔ Q x ∨ ∃ y, y ∈ l ∧ Q y := fun Q => by
      constructor
      · rintro ⟨y, h, q⟩
        obtain h | h := List.mem_cons.mp h
        · subst h; exact Or.inl q
        · exact Or.inr ⟨y, h, q⟩
      · rintro (q | ⟨y, h, q⟩)
        · exact ⟨x, List.mem_cons_self, q⟩
        · exact ⟨y, List.mem_cons_of_mem _ h, q⟩
    refine ⟨h1.trans ?_, h2.trans ?_, h3.trans ?_⟩
    · rw [c, lor_b, hp, or_assoc]
    · rw [c, lor_b, or_assoc]; rfl
    · rw [c, lor_b, land_b (by omega), hp, or_assoc]; rfl
end
