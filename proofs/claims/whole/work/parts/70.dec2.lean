/-! ===== the three longs and the mid picture: what is ahead ===== -/
def xa_dd (P : PA) (s : AS) : Prop := pa_dn P < pa_na P → pa_dn P < xa_nx s (pa_mk P) → as_do s (pa_dn P)
def xa_wd (P : PA) : Prop := pa_dn P < pa_na P → pa_mk P < pa_nt P ∧ (pa_ks P (pa_mk P)).2 ≤ pa_dn P ∧ ∀ n lm, n < pa_na P → xa_th P n = pa_mk P → n < pa_dn P → (pa_kc P n lm).2 ≤ pa_dn P
theorem xa_dd_0 {P : PA} (D : xa_wd P) : xa_dd P (xa_0 P) := by
  intro h1 h2
  have := (D h1).2.1
  change pa_dn P < (pa_ks P (pa_mk P)).2 at h2
  omega
theorem xa_dd_ac {P : PA} {V : Nat → Bool} {o : Nat} {s : AS} {t w : Nat} (W : xa_wf P) (D : xa_wd P) (I : xa_in P o s) (he : xa_en P V s t) (hd : xa_dd P s) : xa_dd P (xa_ac P V o s t w) := by
  intro h1 h2
  rw [xa_ac_do, up_true]
  by_cases ht : pa_mk P = t
  · have htn := xa_nx_th W I he.1 he.2.1
    rw [ht, xa_ac_nx] at h2
    by_cases h3 : xa_nx s t < pa_dn P
    · have := (D h1).2.2 (xa_nx s t) (xa_rd P (xa_lm s t) (xa_nx s t) w (xa_vs s w)) he.2.1 (htn.trans ht.symm) h3
      omega
    · by_cases h4 : pa_dn P = xa_nx s t
      · exact Or.inl h4
      · exact Or.inr (hd h1 (by rw [ht]; omega))
  · rw [xa_ac_nx_ne ht] at h2
    exact Or.inr (hd h1 h2)
theorem xa_dd_em {P : PA} {s : AS} {m : Nat} (hd : xa_dd P s) : xa_dd P (xa_em P s m) := hd
theorem pub_do {P : PA} {o : Nat} {s : AS} {t b : Nat} (I : xa_in P o s) (hd : xa_dd P s) (h : xa_pub P (xa_lm s t) b) : as_do s (pa_dn P) := by
  obtain ⟨m, h1, h2, h3⟩ := h
  have h4 := I.2.1 m (I.2.2.2.2.2 _ _ _ h1)
  rw [h2] at h4
  exact hd (by omega) (by omega)
def kv (K : Nat → Nat → Int32) (c : Nat) : Bool := decide (¬ m_vo K (nI c) = 0)
def ao (oc : Nat) : Nat := if oc = 3 then 0 else oc
/-- the rows that begin() makes -/
def KS (K : Nat → Nat → Int32) (na nt oc : Nat) : Prop :=
  K 14 0 = nI oc ∧ oc ≤ 3 ∧
  (∀ c, c < 6 → ∃ w, K 11 c = nI w ∧ w < 256 ∧ ∀ n, n < 8 → (w.testBit n = true ↔ n < na ∧ xa_op (KP K) n = 1 ∧ xa_ob (KP K) n = c)) ∧
  (∀ m, m < 2 → ∃ w, K 12 m = nI w ∧ w < 256 ∧ ∀ n, n < 8 → (w.testBit n = true ↔ n < na ∧ xa_op (KP K) n = 4 ∧ xa_ob (KP K) n = m)) ∧
  (∀ t, t < nt → ∃ w, K 13 t = nI w ∧ w < 256 ∧ ∀ n, n < 8 → (w.testBit n = true ↔ n < na ∧ xa_th (KP K) n = t))
def DC (K : Nat → Nat → Int32) (ow : Nat → Nat) (nt oc : Nat) (T C E : Int64) (a : AS) : Prop :=
  (∀ t, t < nt → d_nx T t = xa_nx a t ∧ DL ow T t (xa_lm a t) ∧ DP (KP K) oc ow T t (xa_lm a t)) ∧
  (∀ l, l < 5 → nt ≤ ow l → d_va T l = 0) ∧ (oc ≠ 2 → ∀ l, l < 5 → d_pu T l = 0) ∧
  (∀ m, m < 2 → d_ho T m = as_ho a m) ∧
  (∀ n, n < 8 → (d_do T n = 1 ↔ as_do a n)) ∧ (∀ n, n < 8 → (d_qu T n = 1 ↔ as_qu a n)) ∧
  (oc ≤ 1 → ∀ c, c < 6 → nI (d_ce C c) = xa_vs a (as_me a c) ∧ d_ce C c ≤ 9) ∧
  (oc = 1 → ∀ n, n < 8 → (as_qu a n → nI (d_wb C n) = as_wv a n ∧ d_wb C n ≤ 9) ∧ (¬ as_qu a n → d_wb C n = 0)) ∧
  (2 ≤ oc → (∀ n, n < 8 → (as_do a n → xa_op (KP K) n = 1 → nI (d_wb C n) = as_wv a n ∧ d_wb C n ≤ 9) ∧ (¬ as_do a n → d_wb C n = 0)) ∧ (∀ c, c < 6 → (oc = 3 ∨ kv K c = true) → d_ce C c = as_me a c) ∧ (∀ n m, n < 8 → m < 8 → (d_ea E n m = 1 ↔ as_ea a n m)))
/-- what is seen, as the class numbers it -/
def sw (s : Int32) (w : Nat) : Prop := (s = nI 8 ∧ w = 0) ∨ ∃ m, m < 8 ∧ s = nI m ∧ w = m + 1
section
variable {K : Nat → Nat → Int32} {te ow : Nat → Nat} {na nt sz oc : Nat} {T C E : Int64} {a : AS}
theorem tb_and {x y i : Nat} : (x &&& y).testBit i = true ↔ x.testBit i = true ∧ y.testBit i = true := by rw [Nat.testBit_and, Bool.and_eq_true]
theorem tb_or {x y i : Nat} : (x ||| y).testBit i = true ↔ x.testBit i = true ∨ y.testBit i = true := by rw [Nat.testBit_or, Bool.or_eq_true]
theorem tb_pw {i j : Nat} : (2 ^ i).testBit j = true ↔ i = j := by rw [nt_one, decide_eq_true_iff]
theorem or_256 {x y : Nat} (hx : x < 256) (hy : y < 256) : x ||| y < 256 := Nat.or_lt_two_pow (n := 8) hx hy
theorem pw_256 {l : Nat} (h : l < 8) : 2 ^ l < 256 := Nat.pow_lt_pow_right (a := 2) (n := 8) (by decide) h
theorem and_3 {t : Nat} (h : t < 4) : ix (nI t &&& 3) = t := by rw [pk_andN (by omega) 2 (by decide), Nat.mod_eq_of_lt (by omega), ix_nI (by omega)]
theorem and_63 {e : Nat} (h : e < 64) : nI e &&& 63 = nI e := by rw [pk_andN (by omega) 6 (by decide), Nat.mod_eq_of_lt (by omega)]
theorem and_7 {e : Nat} (h : e < 8) : nI e &&& 7 = nI e := by rw [pk_andN (by omega) 3 (by decide), Nat.mod_eq_of_lt (by omega)]
theorem and_1 {e : Nat} (h : e < 2) : nI e &&& 1 = nI e := by rw [pk_andN (by omega) 1 (by decide), Nat.mod_eq_of_lt (by omega)]
theorem q_done (D : DC K ow nt oc T C E a) {n : Nat} (h : n < 8) : (fd T 47 8).testBit n = true ↔ as_do a n := by
  rw [fd_1 h]; exact D.2.2.2.2.1 n h
/-- own actions that are done -/
theorem q_own (Z : KW K te ow na nt sz) (S : KS K na nt oc) (I : xa_in (KP K) (ao oc) a) (D : DC K ow nt oc T C E a) {t : Nat} (ht : t < nt) : ∃ X, X < 256 ∧ (K 13 (ix (nI t &&& 3)) &&& m_do T) = nI X ∧ ∀ l, l < 8 → (X.testBit l = true ↔ xa_th (KP K) l = t ∧ as_do a l) := by
  have hnt := Z.2.1
  obtain ⟨w, w1, w2, w3⟩ := S.2.2.2.2 t ht
  have hf := fd_lt (T := T) (k := 47) (w := 8)
  refine ⟨w &&& fd T 47 8, Nat.lt_of_le_of_lt Nat.and_le_left w2, ?_, fun l hl => ?_⟩
  · rw [and_3 (by omega), w1, q_do, nI_and (by omega) (by omega)]
  · rw [tb_and, w3 l hl, q_done D hl]
    constructor
    · rintro ⟨⟨h1, h2⟩, h3⟩; exact ⟨h2, h3⟩
    · rintro ⟨h2, h3⟩
      have := (I.2.1 l h3).1
      rw [kp_na Z] at this
      exact ⟨⟨this, h2⟩, h3⟩
theorem q_lk (Z : KW K te ow na nt sz) (S : KS K na nt oc) (I : xa_in (KP K) (ao oc) a) (hd : xa_dd (KP K) a) (D : DC K ow nt oc T C E a) (ho : 2 ≤ oc) {t n : Nat} {s : Int32} {w : Nat} (ht : t < nt) (hn : n < na) (hnt : xa_th (KP K) n = t) (hsw : sw s w) :
    ∃ X, X < 256 ∧ m_lk K T (nI t) (K 8 n) s = nI X ∧ ∀ l, l < 8 → (X.testBit l = true ↔ xa_lk (KP K) (kv K) (ao oc) a t n w l) := by
  have hna := Z.1
  have hsz := Z.2.2.1
  have hnt4 := Z.2.1
  obtain ⟨e, op, c1, c2, c3, c4, c5, c6, c7, c8, c9, c10⟩ := kp_act Z hn
  obtain ⟨X, x1, x2, x3⟩ := q_own Z S I D ht
  obtain ⟨-, op', f1, f2, f3, f4, f5, f6, f7, f8, f9, -⟩ := Z.2.2.2.2.2.2.2.1 e c1
  have hop : op' = op := by rw [c5, nI_eq (by omega) (by omega)] at f1; exact f1.symm
  rw [hop] at f6 f7 f8 f9
  rw [c8] at hnt
  have hox : xa_ob (KP K) n = ix (K 4 e) := by
    show ix (K 4 (ix (K 8 n))) = _
    rw [c3]
  have hbx : xa_bl (KP K) n = ix (K 2 e) := by
    show ix (K 2 (ix (K 8 n))) = _
    rw [c3]
  unfold m_lk
  rw [x2, c2, and_63 (by omega), ix_nI (by omega), c5]
  by_cases h3 : op = 3
  · rw [if_pos (by rw [h3]; rfl)]
    obtain ⟨m, m1, m2⟩ := f7 (Or.inl h3)
    obtain ⟨w', w1, w2, w3⟩ := S.2.2.2.1 m m1
    have hf := fd_lt (T := T) (k := 47) (w := 8)
    have hlt : w' &&& fd T 47 8 < 256 := Nat.lt_of_le_of_lt Nat.and_le_left w2
    refine ⟨X ||| (w' &&& fd T 47 8), or_256 x1 hlt, ?_, fun l hl => ?_⟩
    · rw [m2, and_1 m1, ix_nI (by omega), w1, q_do, nI_and (by omega) (by omega), nI_or (by omega) (by omega)]
    · rw [tb_or, x3 l hl, tb_and, w3 l hl, q_done D hl]
      unfold xa_lk
      rw [c9, hox, m2, ix_nI (by omega)]
      constructor
      · rintro (h | ⟨⟨g1, g2, g3⟩, g4⟩)
        · exact Or.inl h
        · exact Or.inr (Or.inl ⟨h3, g2, g3, g4⟩)
      · rintro (h | ⟨g1, g2, g3, g4⟩ | ⟨g1, -⟩ | ⟨g1, -⟩)
        · exact Or.inl h
        · have := (I.2.1 l g4).1
          rw [kp_na Z] at this
          exact Or.inr ⟨⟨this, g2, g3⟩, g4⟩
        · omega
        · omega
  · rw [if_neg (by rw [show (3 : Int32) = nI 3 from rfl, nI_eq (by omega) (by omega)]; exact h3)]
    by_cases h0 : op = 0
    · rw [if_pos (by rw [h0]; rfl)]
      obtain ⟨c, d1, d2⟩ := f6 (Or.inl h0)
      rw [d2]
      have hkv : kv K (xa_ob (KP K) n) = decide (¬ m_vo K (nI c) = 0) := by rw [hox, d2, ix_nI (by omega)]; rfl
      by_cases hv : m_vo K (nI c) = 0
      · rw [if_pos hv]
        refine ⟨X, x1, rfl, fun l hl => ?_⟩
        rw [x3 l hl]
        unfold xa_lk
        rw [c9, hkv, decide_eq_false (fun h => h hv)]
        constructor
        · exact Or.inl
        · rintro (h | ⟨g1, -⟩ | ⟨-, g2, -⟩ | ⟨g1, -⟩)
          · exact h
          · omega
          · cases g2
          · omega
      · rw [if_neg hv]
        obtain ⟨rfl, rfl⟩ | ⟨m, m1, rfl, rfl⟩ := hsw
        · rw [if_pos (show (8 : Int32) ≤ nI 8 by decide)]
          refine ⟨X, x1, rfl, fun l hl => ?_⟩
          rw [x3 l hl]
          unfold xa_lk
          rw [c9]
          constructor
          · exact Or.inl
          · rintro (h | ⟨g1, -⟩ | ⟨-, -, g2⟩ | ⟨g1, -⟩)
            · exact h
            · omega
            · omega
            · omega
        · rw [if_neg (show ¬ (8 : Int32) ≤ nI m from nI_ge (b := 8) m1 (by decide)), nI_one (by omega)]
          have hp := pw_256 m1
          refine ⟨X ||| 2 ^ m, or_256 x1 hp, ?_, fun l hl => ?_⟩
          · rw [nI_or (by omega) (by omega)]
          · rw [tb_or, x3 l hl, tb_pw]
            unfold xa_lk
            rw [c9, hkv, decide_eq_true hv]
            constructor
            · rintro (h | h)
              · exact Or.inl h
              · exact Or.inr (Or.inr (Or.inl ⟨h0, rfl, by omega⟩))
            · rintro (h | ⟨g1, -⟩ | ⟨-, -, g2⟩ | ⟨g1, -⟩)
              · exact Or.inl h
              · omega
              · exact Or.inr (by omega)
              · omega
    · rw [if_neg (by rw [show (0 : Int32) = nI 0 from rfl, nI_eq (by omega) (by omega)]; exact h0)]
      by_cases h2 : op = 2
      · rw [if_pos (by rw [h2]; rfl)]
        obtain ⟨b, b1, b2, b3⟩ := f9 h2
        have hbl : xa_bl (KP K) n = b := by rw [hbx, b2, ix_nI (by omega)]
        have hno : ¬ (ao oc = 2 ∧ xa_pub (KP K) (xa_lm a t) b) → ∀ l, l < 8 → (X.testBit l = true ↔ xa_lk (KP K) (kv K) (ao oc) a t n w l) := by
          intro hno l hl
          rw [x3 l hl]
          unfold xa_lk
          rw [c9, hbl]
          constructor
          · exact Or.inl
          · rintro (h | ⟨g1, -⟩ | ⟨g1, -⟩ | ⟨g1, g2, g3, g4, g5⟩)
            · exact h
            · omega
            · omega
            · exact (hno ⟨g2, g5⟩).elim
        by_cases hdn : K 10 17 = -1
        · rw [if_pos hdn]
          refine ⟨X, x1, rfl, hno ?_⟩
          rintro ⟨-, g⟩
          have g1 := (I.2.1 _ (pub_do I hd g)).1
          rw [kp_na Z, show pa_dn (KP K) = 8 from if_pos hdn] at g1
          omega
        · rw [if_neg hdn, b2]
          by_cases hp : m_pu T (nI b) = 0
          · rw [if_pos hp]
            refine ⟨X, x1, rfl, hno ?_⟩
            rintro ⟨g0, g⟩
            have h2c : oc = 2 := by unfold ao at g0; split at g0 <;> omega
            have := ((D.1 t ht).2.2 h2c b b1 (b3.trans hnt)).mpr g
            rw [q_pu b1] at hp
            omega
          · rw [if_neg hp]
            have hpu : d_pu T b = 1 := by
              have h5 : ¬ d_pu T b = 0 := fun h => hp ((q_pu b1).mpr h)
              have := fd_lt (T := T) (k := 42 + b) (w := 1)
              unfold d_pu at h5 ⊢
              omega
            have h2c : oc = 2 := by
              apply Classical.byContradiction
              intro h
              have := D.2.2.1 h b b1
              omega
            have hpub := ((D.1 t ht).2.2 h2c b b1 (b3.trans hnt)).mp hpu
            have hdo := pub_do I hd hpub
            obtain hx | ⟨dd, mm, ed, g1, g2, g3, g4, -⟩ := Z.2.2.2.2.2.2.2.2.2
            · exact (hdn hx).elim
            · have hdd : pa_dn (KP K) = dd := by
                show (if K 10 17 = -1 then 8 else ix (K 10 17)) = dd
                rw [if_neg hdn, g1, ix_nI (by omega)]
              rw [g1, nI_one (by omega)]
              have hp2 := pw_256 (show dd < 8 by omega)
              refine ⟨X ||| 2 ^ dd, or_256 x1 hp2, by rw [nI_or (by omega) (by omega)], fun l hl => ?_⟩
              rw [tb_or, x3 l hl, tb_pw]
              unfold xa_lk
              rw [c9, hbl, hdd]
              rw [hdd] at hdo
              constructor
              · rintro (h | h)
                · exact Or.inl h
                · exact Or.inr (Or.inr (Or.inr ⟨h2, by rw [h2c]; rfl, h, h ▸ hdo, hpub⟩))
              · rintro (h | ⟨g1, -⟩ | ⟨g1, -⟩ | ⟨g1, g2, g3, g4, g5⟩)
                · exact Or.inl h
                · omega
                · omega
                · exact Or.inr g3
      · rw [if_neg (by rw [show (2 : Int32) = nI 2 from rfl, nI_eq (by omega) (by omega)]; exact h2)]
        refine ⟨X, x1, rfl, fun l hl => ?_⟩
        rw [x3 l hl]
        unfold xa_lk
        rw [c9]
        constructor
        · exact Or.inl
        · rintro (h | ⟨g1, -⟩ | ⟨g1, -⟩ | ⟨g1, -⟩)
          · exact h
          · omega
          · omega
          · omega
theorem q_al {E : Int64} {lk : Nat} (hlk : lk < 256) : ∀ (n : Nat), n ≤ 8 → ∀ x, x < 256 → ∃ Y, Y < 256 ∧ m_al E (nI lk) n (8 - n) (nI x) = nI Y ∧ ∀ m, m < 8 → (Y.testBit m = true ↔ x.testBit m = true ∨ ∃ i, 8 - n ≤ i ∧ i < 8 ∧ lk.testBit i = true ∧ d_ea E i m = 1) := by
  intro n
  induction n with
  | zero =>
    intro _ x hx
    refine ⟨x, hx, rfl, fun m hm => ⟨Or.inl, ?_⟩⟩
    rintro (h | ⟨i, h1, h2, -⟩)
    · exact h
    · omega
  | succ n ih =>
    intro hn x hx
    unfold m_al
    rw [show 8 - (n + 1) + 1 = 8 - n by omega]
    by_cases hb : lk.testBit (8 - (n + 1)) = true
    · rw [if_neg (by rw [nI_bit0 (by omega) (by omega), hb]; exact Bool.noConfusion), q_ea (by omega)]
      have hf := fd_lt (T := E) (k := 8 * (8 - (n + 1))) (w := 8)
      rw [nI_or (by omega) (by omega)]
      obtain ⟨Y, y1, y2, y3⟩ := ih (by omega) (x ||| fd E (8 * (8 - (n + 1))) 8) (or_256 hx hf)
      refine ⟨Y, y1, y2, fun m hm => ?_⟩
      rw [y3 m hm, tb_or, fd_1 hm]
      constructor
      · rintro ((h | h) | ⟨i, h1, h2, h3, h4⟩)
        · exact Or.inl h
        · exact Or.inr ⟨8 - (n + 1), Nat.le_refl _, by omega, hb, h⟩
        · exact Or.inr ⟨i, by omega, h2, h3, h4⟩
      · rintro (h | ⟨i, h1, h2, h3, h4⟩)
        · exact Or.inl (Or.inl h)
        · by_cases hi : i = 8 - (n + 1)
          · subst hi; exact Or.inl (Or.inr h4)
          · exact Or.inr ⟨i, by omega, h2, h3, h4⟩
    · rw [if_pos (by rw [nI_bit0 (by omega) (by omega)]; exact Bool.eq_false_iff.mpr hb)]
      obtain ⟨Y, y1, y2, y3⟩ := ih (by omega) x hx
      refine ⟨Y, y1, y2, fun m hm => ?_⟩
      rw [y3 m hm]
      constructor
      · rintro (h | ⟨i, h1, h2, h3, h4⟩)
        · exact Or.inl h
        · exact Or.inr ⟨i, by omega, h2, h3, h4⟩
      · rintro (h | ⟨i, h1, h2, h3, h4⟩)
        · exact Or.inl h
        · by_cases hi : i = 8 - (n + 1)
          · subst hi; exact (hb h3).elim
          · exact Or.inr ⟨i, by omega, h2, h3, h4⟩
theorem q_ah (Z : KW K te ow na nt sz) (S : KS K na nt oc) (I : xa_in (KP K) (ao oc) a) (hd : xa_dd (KP K) a) (D : DC K ow nt oc T C E a) (ho : 2 ≤ oc) {t n : Nat} {s : Int32} {w : Nat} (ht : t < nt) (hn : n < na) (hnt : xa_th (KP K) n = t) (hsw : sw s w) (hw : ∀ m, w = m + 1 → as_do a m) :
    ∃ X, X < 256 ∧ m_ah K T E (nI t) (K 8 n) s = nI X ∧ ∀ l, l < 8 → (X.testBit l = true ↔ xa_ah (KP K) (kv K) (ao oc) a t n w l) := by
  obtain ⟨X, x1, x2, x3⟩ := q_lk Z S I hd D ho ht hn hnt hsw
  unfold m_ah
  rw [x2]
  obtain ⟨Y, y1, y2, y3⟩ := q_al (E := E) x1 8 (by omega) X x1
  refine ⟨Y, y1, y2, fun l hl => ?_⟩
  rw [y3 l hl]
  have hna := Z.1
  have hlt : ∀ i, xa_lk (KP K) (kv K) (ao oc) a t n w i → i < 8 := fun i hi => by
    have := (I.2.1 i (xa_lk_do hw hi)).1
    rw [kp_na Z] at this
    omega
  unfold xa_ah
  constructor
  · rintro (h | ⟨i, h1, h2, h3, h4⟩)
    · exact ⟨l, (x3 l hl).mp h, Or.inl rfl⟩
    · exact ⟨i, (x3 i h2).mp h3, Or.inr (((D.2.2.2.2.2.2.2.2 ho).2.2 i l h2 hl).mp h4)⟩
  · rintro ⟨i, h1, rfl | h2⟩
    · exact Or.inl ((x3 _ hl).mpr h1)
    · exact Or.inr ⟨i, by omega, hlt i h1, (x3 i (hlt i h1)).mpr h1, ((D.2.2.2.2.2.2.2.2 ho).2.2 i l (hlt i h1) hl).mpr h2⟩
end
