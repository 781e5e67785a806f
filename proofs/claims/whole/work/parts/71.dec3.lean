/-! ===== the three longs and the mid picture: who can act, who hurries, what is seen ===== -/
section
variable {K : Nat → Nat → Int32} {te ow : Nat → Nat} {na nt sz oc : Nat} {T C E : Int64} {a : AS}
theorem q_55 {T : Int64} : (us_j T (55 : Int32)).toInt32 = nI (fd T 55 9) := by
  have hf := fd_lt (T := T) (k := 55) (w := 9)
  apply i32_ext
  rw [nI_tn (by omega)]
  have : ((us_j T (nI 55)).toInt32).toBitVec = (us_j T (nI 55)).toBitVec.signExtend 32 := rfl
  show ((us_j T (nI 55)).toInt32).toBitVec.toNat = _
  rw [this, BitVec.signExtend_eq_setWidth_of_le _ (by decide), BitVec.toNat_setWidth, us_toNat (by omega)]
  unfold fd
  have := T.toBitVec.isLt
  omega
theorem q_qu (Z : KW K te ow na nt sz) (S : KS K na nt oc) (I : xa_in (KP K) (ao oc) a) (D : DC K ow nt oc T C E a) {t : Nat} (ht : t < nt) : ∃ X, X < 256 ∧ m_qu K T (nI t) = nI X ∧ ∀ n, n < 8 → (X.testBit n = true ↔ as_qu a n ∧ xa_th (KP K) n = t) := by
  have hnt := Z.2.1
  obtain ⟨w, w1, w2, w3⟩ := S.2.2.2.2 t ht
  have hf := fd_lt (T := T) (k := 55) (w := 9)
  refine ⟨fd T 55 9 &&& w, Nat.lt_of_le_of_lt Nat.and_le_right w2, ?_, fun n hn => ?_⟩
  · unfold m_qu
    rw [and_3 (by omega), w1, q_55, nI_and (by omega) (by omega)]
  · rw [tb_and, w3 n hn, fd_1 (by omega), show (fd T (55 + n) 1 = 1) = (d_qu T n = 1) from rfl, D.2.2.2.2.2.1 n hn]
    constructor
    · rintro ⟨h1, h2, h3⟩; exact ⟨h1, h3⟩
    · rintro ⟨h1, h3⟩
      have := (I.2.1 n (I.2.2.2.1 n h1).1).1
      rw [kp_na Z] at this
      exact ⟨h1, this, h3⟩
theorem q_hq (Z : KW K te ow na nt sz) (S : KS K na nt oc) (I : xa_in (KP K) (ao oc) a) (D : DC K ow nt oc T C E a) {t : Nat} (ht : t < nt) : m_hq K T (nI t) = 0 ↔ xa_qe (KP K) a t := by
  have hna := Z.1
  obtain ⟨X, x1, x2, x3⟩ := q_qu Z S I D ht
  have h1 : m_hq K T (nI t) = 0 ↔ X = 0 := by
    unfold m_hq
    rw [x2, show (0 : Int32) = nI 0 from rfl]
    by_cases h : X = 0
    · rw [h, if_pos rfl]; exact ⟨fun _ => rfl, fun _ => rfl⟩
    · rw [if_neg (by rw [nI_eq (by omega) (by omega)]; exact h)]
      exact ⟨fun e => absurd e (by decide), fun e => absurd e h⟩
  rw [h1]
  constructor
  · intro h m hm htm
    have h8 := (I.2.1 m (I.2.2.2.1 m hm).1).1
    rw [kp_na Z] at h8
    have := (x3 m (by omega)).mpr ⟨hm, htm⟩
    rw [h, Nat.zero_testBit] at this
    cases this
  · intro h
    apply Classical.byContradiction
    intro h0
    obtain ⟨i, hi⟩ := Nat.exists_testBit_of_ne_zero h0
    have h8 : i < 8 := by
      apply Nat.lt_of_not_le
      intro h8
      rw [nt_tb0 (w := 8) x1 h8] at hi
      cases hi
    obtain ⟨g1, g2⟩ := (x3 i h8).mp hi
    exact h i g1 g2
theorem q_at (Z : KW K te ow na nt sz) (D : DC K ow nt oc T C E a) {t : Nat} (ht : t < nt) (hn : xa_nx a t < na) : ∃ e op, e < sz ∧ K 8 (xa_nx a t) = nI e ∧ ix (K 8 (xa_nx a t)) = e ∧ K 6 e = nI (xa_nx a t) ∧ K 0 e = nI op ∧ op ≤ 5 ∧ xa_op (KP K) (xa_nx a t) = op ∧ xa_th (KP K) (xa_nx a t) = te e ∧ m_an T (nI t) = nI (xa_nx a t) ∧ m_at K T (nI t) = nI e ∧ m_op K T (nI t) = nI op := by
  have hna := Z.1
  have hnt := Z.2.1
  have hsz := Z.2.2.1
  obtain ⟨e, op, c1, c2, c3, c4, c5, c6, c7, c8, c9, c10⟩ := kp_act Z hn
  have h1 : m_an T (nI t) = nI (xa_nx a t) := by
    unfold m_an
    rw [q_nx (by omega), (D.1 t ht).1, and_7 (by omega)]
  have h2 : m_at K T (nI t) = nI e := by
    unfold m_at
    rw [h1, ix_nI (by omega), c2, and_63 (by omega)]
  refine ⟨e, op, c1, c2, c3, c4, c5, c6, c9, c8, h1, h2, ?_⟩
  unfold m_op
  rw [h2, ix_nI (by omega), c5]
theorem q_nxlt (Z : KW K te ow na nt sz) (I : xa_in (KP K) (ao oc) a) (D : DC K ow nt oc T C E a) {t : Nat} (ht : t < nt) : (m_nx T (nI t) < K 10 12) ↔ xa_nx a t < na := by
  have hna := Z.1
  have hnt := Z.2.1
  have h8 : xa_nx a t ≤ 8 := by
    have := I.1 t (by rw [kp_nt Z]; exact ht)
    rw [kp_na Z] at this
    omega
  rw [q_nx (by omega), (D.1 t ht).1, Z.2.2.2.1, nI_ltI (by omega) (by omega)]
theorem i_op {op k : Nat} (h : op ≤ 5) (hk : k < 100) : (nI op = nI k) ↔ op = k := nI_eq (by omega) (by omega)
theorem q_kv (Z : KW K te ow na nt sz) {n e c : Nat} (hn : ix (K 8 n) = e) (hc : c < 6) (h4 : K 4 e = nI c) : xa_ob (KP K) n = c ∧ (kv K c = true ↔ ¬ m_vo K (K 4 e) = 0) := by
  constructor
  · show ix (K 4 (ix (K 8 n))) = c
    rw [hn, h4, ix_nI (by omega)]
  · rw [h4]
    unfold kv
    rw [decide_eq_true_iff]
theorem q_can (Z : KW K te ow na nt sz) (S : KS K na nt oc) (I : xa_in (KP K) (ao oc) a) (D : DC K ow nt oc T C E a) {t : Nat} (ht : t < nt) : (m_can K T (nI t) = 0 ∧ ¬ xa_en (KP K) (kv K) a t) ∨ (m_can K T (nI t) = 1 ∧ xa_en (KP K) (kv K) a t) := by
  have hnt := Z.2.1
  have hlt := q_nxlt Z I D ht
  have hq := q_hq Z S I D ht
  unfold m_can xa_en
  rw [kp_nt Z, kp_na Z]
  by_cases hn : xa_nx a t < na
  · rw [if_pos (hlt.mpr hn)]
    obtain ⟨e, op, c1, c2, c3, c4, c5, c6, c7, c8, c9, c10, c11⟩ := q_at Z D ht hn
    have hte : te e = t := by
      obtain h | h := I.1 t (by rw [kp_nt Z]; exact ht)
      · have := Z.1; omega
      · rw [← c8]; exact h.2
    obtain ⟨-, op', f1, f2, f3, f4, f5, f6, f7, f8, f9, -⟩ := Z.2.2.2.2.2.2.2.1 e c1
    have hsz := Z.2.2.1
    have hop : op' = op := by rw [c5, nI_eq (by omega) (by omega)] at f1; exact f1.symm
    rw [hop] at f6 f7 f8 f9
    rw [c11, c10, ix_nI (show e < 2 ^ 31 by omega), c7]
    by_cases h0 : op = 0
    · obtain ⟨c, d1, d2⟩ := f6 (Or.inl h0)
      obtain ⟨g1, g2⟩ := q_kv Z c3 d1 d2
      rw [g1]
      subst h0
      rw [if_pos (show nI 0 = 0 from rfl)]
      by_cases hv : m_vo K (K 4 e) = 0
      · rw [if_pos hv]
        refine Or.inr ⟨rfl, ht, hn, fun _ h => absurd hv (g2.mp h), fun h => by omega, fun h => by omega, fun h => by omega⟩
      · rw [if_neg hv]
        by_cases hh : m_hq K T (nI t) = 0
        · rw [if_pos hh]
          exact Or.inr ⟨rfl, ht, hn, fun _ _ => hq.mp hh, fun h => by omega, fun h => by omega, fun h => by omega⟩
        · rw [if_neg hh]
          exact Or.inl ⟨rfl, fun h => hh (hq.mpr (h.2.2.1 rfl (g2.mpr hv)))⟩
    · rw [if_neg (show ¬ nI op = 0 by rw [show (0 : Int32) = nI 0 from rfl, i_op c6 (by omega)]; exact h0)]
      by_cases h1 : op = 1
      · rw [if_pos (by rw [h1]; rfl)]
        exact Or.inr ⟨rfl, ht, hn, fun h => by omega, fun h => by omega, fun h => by omega, fun h => by omega⟩
      · rw [if_neg (show ¬ nI op = 1 by rw [show (1 : Int32) = nI 1 from rfl, i_op c6 (by omega)]; exact h1)]
        by_cases h2 : op = 2
        · obtain ⟨b, b1, b2, b3⟩ := f9 h2
          have hbl : xa_bl (KP K) (xa_nx a t) = b := by
            show ix (K 2 (ix (K 8 (xa_nx a t)))) = b
            rw [c3, b2, ix_nI (by omega)]
          have hv := ((D.1 t ht).2.1 b b1 (b3.trans hte)).1
          rw [if_pos (by rw [h2]; rfl), b2, q_va b1, hbl, hv]
          by_cases hz : nI (d_va T b) = 0
          · rw [if_pos hz]
            exact Or.inl ⟨rfl, fun h => h.2.2.2.1 h2 hz⟩
          · rw [if_neg hz]
            exact Or.inr ⟨rfl, ht, hn, fun h => by omega, fun _ => hz, fun h => by omega, fun h => by omega⟩
        · rw [if_neg (show ¬ nI op = 2 by rw [show (2 : Int32) = nI 2 from rfl, i_op c6 (by omega)]; exact h2)]
          by_cases h3 : op = 3
          · obtain ⟨m, m1, m2⟩ := f7 (Or.inl h3)
            have hob : xa_ob (KP K) (xa_nx a t) = m := by
              show ix (K 4 (ix (K 8 (xa_nx a t)))) = m
              rw [c3, m2, ix_nI (by omega)]
            have hm := D.2.2.2.1 m m1
            have hlm := fd_lt (T := T) (k := 36 + 3 * m) (w := 3)
            rw [if_pos (by rw [h3]; rfl), m2, q_ho m1, hob]
            by_cases hz : d_ho T m = 0
            · rw [if_pos (by rw [hz]; rfl)]
              by_cases hh : m_hq K T (nI t) = 0
              · rw [if_pos hh]
                exact Or.inr ⟨rfl, ht, hn, fun h => by omega, fun h => by omega, fun _ => ⟨hm ▸ hz, hq.mp hh⟩, fun h => by omega⟩
              · rw [if_neg hh]
                exact Or.inl ⟨rfl, fun h => hh (hq.mpr (h.2.2.2.2.1 h3).2)⟩
            · rw [if_neg (by rw [show (0 : Int32) = nI 0 from rfl, nI_eq (by unfold d_ho; omega) (by omega)]; exact hz)]
              exact Or.inl ⟨rfl, fun h => hz (hm.trans (h.2.2.2.2.1 h3).1)⟩
          · rw [if_neg (show ¬ nI op = 3 by rw [show (3 : Int32) = nI 3 from rfl, i_op c6 (by omega)]; exact h3)]
            by_cases h4 : op = 4
            · rw [if_pos (by rw [h4]; rfl)]
              by_cases hh : m_hq K T (nI t) = 0
              · rw [if_pos hh]
                exact Or.inr ⟨rfl, ht, hn, fun h => by omega, fun h => by omega, fun h => by omega, fun _ => hq.mp hh⟩
              · rw [if_neg hh]
                exact Or.inl ⟨rfl, fun h => hh (hq.mpr (h.2.2.2.2.2 h4))⟩
            · rw [if_neg (show ¬ nI op = 4 by rw [show (4 : Int32) = nI 4 from rfl, i_op c6 (by omega)]; exact h4)]
              exact Or.inr ⟨rfl, ht, hn, fun h => by omega, fun h => by omega, fun h => by omega, fun h => by omega⟩
  · rw [if_neg (fun h => hn (hlt.mp h))]
    exact Or.inl ⟨rfl, fun h => hn h.2.1⟩
theorem q_hu (Z : KW K te ow na nt sz) (S : KS K na nt oc) (I : xa_in (KP K) (ao oc) a) (D : DC K ow nt oc T C E a) {t : Nat} (ht : t < nt) : (m_hu K T (nI t) = 0 ∧ ¬ xa_hu (KP K) (kv K) (ao oc) a t) ∨ (m_hu K T (nI t) = 1 ∧ xa_hu (KP K) (kv K) (ao oc) a t) := by
  have hlt := q_nxlt Z I D ht
  have hoc := S.2.1
  unfold m_hu xa_hu
  rw [kp_nt Z, kp_na Z]
  by_cases hn : xa_nx a t < na
  · rw [if_pos (hlt.mpr hn)]
    obtain ⟨e, op, c1, c2, c3, c4, c5, c6, c7, c8, c9, c10, c11⟩ := q_at Z D ht hn
    obtain ⟨-, op', f1, f2, f3, f4, f5, f6, -⟩ := Z.2.2.2.2.2.2.2.1 e c1
    have hsz := Z.2.2.1
    have hop : op' = op := by rw [c5, nI_eq (by omega) (by omega)] at f1; exact f1.symm
    rw [hop] at f6
    rw [c11, c10, ix_nI (show e < 2 ^ 31 by omega), c7, S.1]
    by_cases h1 : op = 1
    · rw [if_pos (by rw [h1]; rfl)]
      obtain ⟨c, d1, d2⟩ := f6 (Or.inr (Or.inl h1))
      obtain ⟨g1, g2⟩ := q_kv Z c3 d1 d2
      rw [g1]
      by_cases o1 : oc = 1
      · rw [if_pos (by rw [o1]; rfl)]
        exact Or.inr ⟨rfl, ht, hn, Or.inr ⟨h1, Or.inl (by rw [o1]; rfl)⟩⟩
      · rw [if_neg (show ¬ nI oc = 1 by rw [show (1 : Int32) = nI 1 from rfl, nI_eq (by omega) (by omega)]; exact o1)]
        by_cases o2 : oc = 2
        · rw [if_pos (by rw [o2]; rfl)]
          by_cases hv : m_vo K (K 4 e) = 0
          · rw [if_pos hv]
            exact Or.inr ⟨rfl, ht, hn, Or.inr ⟨h1, Or.inr ⟨by rw [o2]; rfl, Bool.eq_false_iff.mpr (fun h => g2.mp h hv)⟩⟩⟩
          · rw [if_neg hv]
            refine Or.inl ⟨rfl, ?_⟩
            rintro ⟨-, -, h | ⟨-, h | ⟨-, h⟩⟩⟩
            · omega
            · unfold ao at h; rw [o2] at h; exact absurd h (by decide)
            · rw [g2.mpr hv] at h; cases h
        · rw [if_neg (show ¬ nI oc = 2 by rw [show (2 : Int32) = nI 2 from rfl, nI_eq (by omega) (by omega)]; exact o2)]
          refine Or.inl ⟨rfl, ?_⟩
          rintro ⟨-, -, h | ⟨-, h | ⟨h, -⟩⟩⟩
          · omega
          · unfold ao at h; split at h <;> omega
          · unfold ao at h; split at h <;> omega
    · rw [if_neg (show ¬ nI op = 1 by rw [show (1 : Int32) = nI 1 from rfl, i_op c6 (by omega)]; exact h1)]
      by_cases h5 : op = 5
      · rw [if_pos (by rw [h5]; rfl)]
        exact Or.inr ⟨rfl, ht, hn, Or.inl h5⟩
      · rw [if_neg (show ¬ nI op = 5 by rw [show (5 : Int32) = nI 5 from rfl, i_op c6 (by omega)]; exact h5)]
        refine Or.inl ⟨rfl, ?_⟩
        rintro ⟨-, -, h | ⟨h, -⟩⟩
        · exact h5 h
        · exact h1 h
  · rw [if_neg (fun h => hn (hlt.mp h))]
    exact Or.inl ⟨rfl, fun h => hn h.2.1⟩
theorem nI_andn {x y : Nat} (hx : x < 512) : ∃ X, X < 512 ∧ nI x &&& (nI y ^^^ (-1 : Int32)) = nI X ∧ ∀ i, X.testBit i = (x.testBit i && !((nI y).toBitVec.toNat.testBit i)) := by
  have hN : (nI x &&& (nI y ^^^ (-1 : Int32))).toBitVec.toNat = x &&& ((nI y).toBitVec.toNat ^^^ (2 ^ 32 - 1)) := by
    show ((nI x).toBitVec &&& ((nI y).toBitVec ^^^ (-1 : Int32).toBitVec)).toNat = _
    rw [BitVec.toNat_and, BitVec.toNat_xor, nI_tn (by omega), show (-1 : Int32).toBitVec.toNat = 2 ^ 32 - 1 from by decide]
  have hle : x &&& ((nI y).toBitVec.toNat ^^^ (2 ^ 32 - 1)) ≤ x := Nat.and_le_left
  refine ⟨x &&& ((nI y).toBitVec.toNat ^^^ (2 ^ 32 - 1)), by omega, ?_, fun i => ?_⟩
  · apply i32_ext
    rw [hN]
    exact (nI_tn (by omega)).symm
  · rw [Nat.testBit_and, Nat.testBit_xor, Nat.testBit_two_pow_sub_one]
    by_cases hi : i < 32
    · rw [decide_eq_true hi, Bool.xor_true]
    · rw [nt_tb0 (w := 9) hx (by omega), Bool.false_and, Bool.false_and]
theorem q_sh {E : Int64} {wa : Nat} (hwa : wa < 256) : ∀ (n : Nat), n ≤ 8 → ∀ x, x < 512 → ∃ Y, Y < 512 ∧ m_sh E (nI wa) n (8 - n) (nI x) = nI Y ∧ (∀ m, m < 8 → (Y.testBit m = true ↔ x.testBit m = true ∨ ∃ i, 8 - n ≤ i ∧ i < 8 ∧ wa.testBit i = true ∧ d_ea E i m = 1)) ∧ (Y.testBit 8 = true ↔ x.testBit 8 = true ∨ ∃ i, 8 - n ≤ i ∧ i < 8 ∧ wa.testBit i = true) := by
  intro n
  induction n with
  | zero =>
    intro _ x hx
    refine ⟨x, hx, rfl, fun m hm => ⟨Or.inl, ?_⟩, Or.inl, ?_⟩
    · rintro (h | ⟨i, h1, h2, -⟩)
      · exact h
      · omega
    · rintro (h | ⟨i, h1, h2, -⟩)
      · exact h
      · omega
  | succ n ih =>
    intro hn x hx
    unfold m_sh
    rw [show 8 - (n + 1) + 1 = 8 - n by omega, nI_one (show 8 - (n + 1) < 31 by omega)]
    have hp := pw_256 (show 8 - (n + 1) < 8 by omega)
    rw [nI_and (by omega) (by omega)]
    have hz : (nI (wa &&& 2 ^ (8 - (n + 1))) = 0) ↔ ¬ wa.testBit (8 - (n + 1)) = true := by
      have hle : wa &&& 2 ^ (8 - (n + 1)) ≤ wa := Nat.and_le_left
      rw [show (0 : Int32) = nI 0 from rfl, nI_eq (by omega) (by omega)]
      constructor
      · intro h hb
        have : (wa &&& 2 ^ (8 - (n + 1))).testBit (8 - (n + 1)) = true := by rw [tb_and, tb_pw]; exact ⟨hb, rfl⟩
        rw [h, Nat.zero_testBit] at this
        cases this
      · intro hb
        apply Classical.byContradiction
        intro h0
        obtain ⟨i, hi⟩ := Nat.exists_testBit_of_ne_zero h0
        rw [tb_and, tb_pw] at hi
        exact hb (hi.2 ▸ hi.1)
    by_cases hb : wa.testBit (8 - (n + 1)) = true
    · rw [if_neg (fun h => hz.mp h hb), q_ea (by omega)]
      have hf := fd_lt (T := E) (k := 8 * (8 - (n + 1))) (w := 8)
      have h5 : fd E (8 * (8 - (n + 1))) 8 ||| 256 < 512 := Nat.or_lt_two_pow (n := 9) (by omega) (by omega)
      rw [show (256 : Int32) = nI 256 from rfl, nI_or (by omega) (by omega), nI_or (by omega) (by omega)]
      obtain ⟨Y, y1, y2, y3, y4⟩ := ih (by omega) (x ||| (fd E (8 * (8 - (n + 1))) 8 ||| 256)) (Nat.or_lt_two_pow (n := 9) hx h5)
      refine ⟨Y, y1, y2, fun m hm => ?_, ?_⟩
      · rw [y3 m hm, tb_or, tb_or, fd_1 hm, show (256 : Nat) = 2 ^ 8 from rfl, tb_pw]
        constructor
        · rintro ((h | h | h) | ⟨i, h1, h2, h3, h4⟩)
          · exact Or.inl h
          · exact Or.inr ⟨8 - (n + 1), Nat.le_refl _, by omega, hb, h⟩
          · omega
          · exact Or.inr ⟨i, by omega, h2, h3, h4⟩
        · rintro (h | ⟨i, h1, h2, h3, h4⟩)
          · exact Or.inl (Or.inl h)
          · by_cases hi : i = 8 - (n + 1)
            · subst hi; exact Or.inl (Or.inr (Or.inl h4))
            · exact Or.inr ⟨i, by omega, h2, h3, h4⟩
      · rw [y4, tb_or, tb_or, show (256 : Nat) = 2 ^ 8 from rfl, tb_pw]
        constructor
        · intro _; exact Or.inr ⟨8 - (n + 1), Nat.le_refl _, by omega, hb⟩
        · intro _; exact Or.inl (Or.inr (Or.inr rfl))
    · rw [if_pos (hz.mpr hb)]
      obtain ⟨Y, y1, y2, y3, y4⟩ := ih (by omega) x hx
      refine ⟨Y, y1, y2, fun m hm => ?_, ?_⟩
      · rw [y3 m hm]
        constructor
        · rintro (h | ⟨i, h1, h2, h3, h4⟩)
          · exact Or.inl h
          · exact Or.inr ⟨i, by omega, h2, h3, h4⟩
        · rintro (h | ⟨i, h1, h2, h3, h4⟩)
          · exact Or.inl h
          · by_cases hi : i = 8 - (n + 1)
            · subst hi; exact (hb h3).elim
            · exact Or.inr ⟨i, by omega, h2, h3, h4⟩
      · rw [y4]
        constructor
        · rintro (h | ⟨i, h1, h2, h3⟩)
          · exact Or.inl h
          · exact Or.inr ⟨i, by omega, h2, h3⟩
        · rintro (h | ⟨i, h1, h2, h3⟩)
          · exact Or.inl h
          · by_cases hi : i = 8 - (n + 1)
            · subst hi; exact (hb h3).elim
            · exact Or.inr ⟨i, by omega, h2, h3⟩
end
