/-! ===== the three longs and the mid picture: fields, what comes at once ===== -/
def d_nx (T : Int64) (t : Nat) : Nat := fd T (4 * t) 4
def d_va (T : Int64) (l : Nat) : Nat := fd T (16 + 4 * l) 4
def d_ho (T : Int64) (m : Nat) : Nat := fd T (36 + 3 * m) 3
def d_pu (T : Int64) (l : Nat) : Nat := fd T (42 + l) 1
def d_do (T : Int64) (n : Nat) : Nat := fd T (47 + n) 1
def d_qu (T : Int64) (n : Nat) : Nat := fd T (55 + n) 1
def d_ce (C : Int64) (c : Nat) : Nat := fd C (4 * c) 4
def d_wb (C : Int64) (n : Nat) : Nat := fd C (24 + 4 * n) 4
def d_ea (E : Int64) (n m : Nat) : Nat := fd E (8 * n + m) 1
theorem k_mul (a : Nat) {b : Int32} {c : Nat} (hb : b = nI c) (t : Nat) (ht : c = a) : b * nI t = nI (a * t) := by rw [hb, ht, pk_mul]
theorem k_ma (a b c : Nat) : nI a + nI b * nI c = nI (a + b * c) := by rw [pk_mul, nI_add]
theorem q_nx {T : Int64} {t : Nat} (h : t < 4) : m_nx T (nI t) = nI (d_nx T t) := by
  unfold m_nx d_nx
  rw [show (4 : Int32) * nI t = nI (4 * t) from pk_mul 4 t]
  exact us_fd 4 (by omega) (by omega) (by decide)
theorem q_va {T : Int64} {l : Nat} (h : l < 5) : m_va T (nI l) = nI (d_va T l) := by
  unfold m_va d_va
  rw [show (16 : Int32) + (4 : Int32) * nI l = nI (16 + 4 * l) from k_ma 16 4 l]
  exact us_fd 4 (by omega) (by omega) (by decide)
theorem q_ho {T : Int64} {l : Nat} (h : l < 2) : m_ho T (nI l) = nI (d_ho T l) := by
  unfold m_ho d_ho
  rw [show (36 : Int32) + (3 : Int32) * nI l = nI (36 + 3 * l) from k_ma 36 3 l]
  exact us_fd 3 (by omega) (by omega) (by decide)
theorem q_do {T : Int64} : m_do T = nI (fd T 47 8) := us_fd (k := 47) 8 (by omega) (by omega) (by decide)
theorem q_ce {C : Int64} {c : Nat} (h : c < 6) : m_ce C (nI c) = nI (d_ce C c) := by
  unfold m_ce d_ce
  rw [show (4 : Int32) * nI c = nI (4 * c) from pk_mul 4 c]
  exact us_fd 4 (by omega) (by omega) (by decide)
theorem q_wb {C : Int64} {n : Nat} (h : n < 8) : m_wb C (nI n) = nI (d_wb C n) := by
  unfold m_wb d_wb
  rw [if_neg (show ¬ (8 : Int32) ≤ nI n from nI_ge (b := 8) (by omega) (by decide)), show (24 : Int32) + (4 : Int32) * nI n = nI (24 + 4 * n) from k_ma 24 4 n]
  exact us_fd 4 (by omega) (by omega) (by decide)
theorem q_ea {E : Int64} {n : Nat} (h : n < 8) : m_ea E (nI n) = nI (fd E (8 * n) 8) := by
  unfold m_ea
  rw [show (8 : Int32) * nI n = nI (8 * n) from pk_mul 8 n]
  exact us_fd 8 (by omega) (by omega) (by decide)
theorem fd_1 {T : Int64} {k w i : Nat} (h : i < w) : (fd T k w).testBit i = true ↔ fd T (k + i) 1 = 1 := by
  rw [fd_tb, decide_eq_true h, Bool.true_and]
  have h1 := fd_tb (T := T) (k := k + i) (w := 1) (i := 0)
  rw [decide_eq_true (by omega), Bool.true_and, Nat.add_zero] at h1
  rw [← h1]
  have := fd_lt (T := T) (k := k + i) (w := 1)
  constructor
  · intro h2
    have h3 : fd T (k + i) 1 ≠ 0 := by
      intro h0
      rw [h0, Nat.zero_testBit] at h2
      cases h2
    omega
  · intro h2
    rw [h2]; rfl
theorem q_pu {T : Int64} {l : Nat} (h : l < 5) : m_pu T (nI l) = 0 ↔ d_pu T l = 0 := by
  unfold m_pu d_pu
  rw [show (42 : Int32) + nI l = nI (42 + l) from nI_add 42 l]
  have e : us_j T (nI (42 + l)) &&& (1 : Int64) = lN (fd T (42 + l) 1) := by
    have hb : (us_j T (nI (42 + l)) &&& (1 : Int64)).toBitVec.toNat = fd T (42 + l) 1 := by
      show ((us_j T (nI (42 + l))).toBitVec &&& (1 : Int64).toBitVec).toNat = _
      rw [BitVec.toNat_and, us_toNat (by omega), show (1 : Int64).toBitVec.toNat = 2 ^ 1 - 1 from by decide, Nat.and_two_pow_sub_one_eq_mod]
      rfl
    apply Int64.toBitVec_inj.mp
    apply BitVec.eq_of_toNat_eq
    rw [hb]
    show _ = (BitVec.ofNat 64 (fd T (42 + l) 1)).toNat
    have := fd_lt (T := T) (k := 42 + l) (w := 1)
    rw [BitVec.toNat_ofNat]
    omega
  rw [e]
  have := fd_lt (T := T) (k := 42 + l) (w := 1)
  obtain h0 | h0 : fd T (42 + l) 1 = 0 ∨ fd T (42 + l) 1 = 1 := by omega
  · rw [h0]; exact ⟨fun _ => rfl, fun _ => by decide⟩
  · rw [h0]; exact ⟨fun h => absurd h (by decide), fun h => by omega⟩
def dis (k w k' w' : Nat) : Prop := k + w ≤ k' ∨ k' + w' ≤ k
theorem sl_ne {T : Int64} {l v k w : Nat} {p : Int32} (hl : l < 5) (hv : v < 16) (h1 : dis (16 + 4 * l) 4 k w) (h2 : dis (42 + l) 1 k w) : fd (m_sl T (nI l) (nI v) p) k w = fd T k w := by
  have hv' : (nI v).toInt64.toBitVec.toNat < 2 ^ 4 := by rw [lg_nI (by omega)]; omega
  unfold m_sl
  rw [show (16 : Int32) + (4 : Int32) * nI l = nI (16 + 4 * l) from k_ma 16 4 l, show (42 : Int32) + nI l = nI (42 + l) from nI_add 42 l]
  split
  · rw [fd_cl_ne (w := 1) (by decide) (by omega) h2, fd_set_ne (w := 4) (by omega) (by decide) hv' h1]
  · rw [fd_or_ne (w := 1) (by decide) (by omega) h2, fd_cl_ne (w := 1) (by decide) (by omega) h2, fd_set_ne (w := 4) (by omega) (by decide) hv' h1]
theorem sl_va {T : Int64} {l v : Nat} {p : Int32} (hl : l < 5) (hv : v < 16) : d_va (m_sl T (nI l) (nI v) p) l = v := by
  have hv' : (nI v).toInt64.toBitVec.toNat < 2 ^ 4 := by rw [lg_nI (by omega)]; omega
  unfold m_sl d_va
  rw [show (16 : Int32) + (4 : Int32) * nI l = nI (16 + 4 * l) from k_ma 16 4 l, show (42 : Int32) + nI l = nI (42 + l) from nI_add 42 l]
  split
  · rw [fd_cl_ne (w := 1) (by decide) (by omega) (by omega), fd_set (by omega) (by omega) (by decide) hv', lg_nI (by omega)]
  · rw [fd_or_ne (w := 1) (by decide) (by omega) (by omega), fd_cl_ne (w := 1) (by decide) (by omega) (by omega), fd_set (by omega) (by omega) (by decide) hv', lg_nI (by omega)]
theorem sl_pu {T : Int64} {l v : Nat} {p : Int32} (hl : l < 5) : d_pu (m_sl T (nI l) (nI v) p) l = if p = 0 then 0 else 1 := by
  unfold m_sl d_pu
  rw [show (42 : Int32) + nI l = nI (42 + l) from nI_add 42 l]
  split
  · exact fd_cl (by omega) (by omega) (by decide)
  · rw [fd_set (by omega) (by omega) (by decide) (by decide)]; decide
theorem sl_va_ne {T : Int64} {l l' v : Nat} {p : Int32} (hl : l < 5) (hl' : l' < 5) (hv : v < 16) (hne : l' ≠ l) : d_va (m_sl T (nI l) (nI v) p) l' = d_va T l' := sl_ne hl hv (by unfold dis; omega) (by unfold dis; omega)
theorem sl_pu_ne {T : Int64} {l l' v : Nat} {p : Int32} (hl : l < 5) (hl' : l' < 5) (hv : v < 16) (hne : l' ≠ l) : d_pu (m_sl T (nI l) (nI v) p) l' = d_pu T l' := sl_ne hl hv (by unfold dis; omega) (by unfold dis; omega)
theorem fi_nx {T : Int64} {t n : Nat} (ht : t < 4) (hn : n < 16) : d_nx (m_fi T (nI t) (nI n)) t = n := by
  unfold m_fi d_nx
  rw [show (4 : Int32) * nI t = nI (4 * t) from pk_mul 4 t, fd_set (by omega) (by omega) (by decide) (by rw [lg_nI (by omega)]; omega), lg_nI (by omega)]
theorem fi_ne {T : Int64} {t n k w : Nat} (ht : t < 4) (hn : n < 16) (h : dis (4 * t) 4 k w) : fd (m_fi T (nI t) (nI n)) k w = fd T k w := by
  unfold m_fi
  rw [show (4 : Int32) * nI t = nI (4 * t) from pk_mul 4 t, fd_set_ne (w := 4) (by omega) (by decide) (by rw [lg_nI (by omega)]; omega) h]
def DL (ow : Nat → Nat) (T : Int64) (t : Nat) (lm : LM) : Prop := ∀ l, l < 5 → ow l = t → lm.1 l = nI (d_va T l) ∧ d_va T l ≤ 9
def DP (P : PA) (oc : Nat) (ow : Nat → Nat) (T : Int64) (t : Nat) (lm : LM) : Prop := oc = 2 → ∀ l, l < 5 → ow l = t → (d_pu T l = 1 ↔ xa_pub P lm l)
/-- a field that thread t's road leaves alone -/
def DF (ow : Nat → Nat) (t k w : Nat) : Prop := dis (4 * t) 4 k w ∧ ∀ l, l < 5 → ow l = t → dis (16 + 4 * l) 4 k w ∧ dis (42 + l) 1 k w
theorem m10_nI {a : Nat} (h : a < 1000) : m_m10 (nI a) = nI (a % 10) := pk_rem (d := 10) (by omega) (by omega) (by omega)
section
variable {K : Nat → Nat → Int32} {te ow : Nat → Nat} {na nt sz : Nat}
theorem w_su_v {T : Int64} {lm : LM} {t e : Nat} (D : DL ow T t lm) (h2 : K 2 e = -1 ∨ ∃ b, b < 5 ∧ K 2 e = nI b ∧ ow b = t) (h3 : K 3 e = -1 ∨ ∃ d, d ≤ 9 ∧ K 3 e = nI d) : ∃ v, v ≤ 9 ∧ w_su K lm e = nI v ∧ (e < 64 → m_su K T (nI e) = nI v) := by
  have hx : e < 64 → ix (nI e &&& 63) = e := fun he => by
    rw [pk_andN (by omega) 6 (by decide), Nat.mod_eq_of_lt (by omega), ix_nI (by omega)]
  obtain ⟨d, hd, hd'⟩ : ∃ d, d ≤ 9 ∧ (if K 3 e = -1 then (0 : Int32) else K 3 e) = nI d := by
    obtain h | ⟨d, h4, h5⟩ := h3
    · exact ⟨0, by omega, by rw [if_pos h]; rfl⟩
    · exact ⟨d, h4, by rw [h5, if_neg (nI_ne1 (by omega))]⟩
  obtain h | ⟨b, h4, h5, h6⟩ := h2
  · refine ⟨d % 10, by omega, ?_, fun he => ?_⟩
    · unfold w_su
      rw [if_pos h, hd', m10_nI (by omega)]
    · unfold m_su
      rw [hx he, if_pos h, hd', m10_nI (by omega)]
  · obtain ⟨a1, a2⟩ := D b h4 h6
    refine ⟨(d + d_va T b) % 10, by omega, ?_, fun he => ?_⟩
    · unfold w_su
      rw [h5, if_neg (nI_ne1 (by omega)), hd', ix_nI (by omega), a1, nI_add, m10_nI (by omega)]
    · unfold m_su
      rw [hx he, h5, if_neg (nI_ne1 (by omega)), hd', q_va h4, nI_add, m10_nI (by omega)]
theorem go_dec (Z : KW K te ow na nt sz) {P : PA} {oc t : Nat} (ht : t < nt) : ∀ (n : Nat) (T : Int64) (lm : LM) (e : Nat), e < sz → te e = t → DL ow T t lm → DP P oc ow T t lm →
    DL ow (m_go K (nI t) n T (nI e)) t (w_go K n lm e).1 ∧ DP P oc ow (m_go K (nI t) n T (nI e)) t (w_go K n lm e).1 ∧ d_nx (m_go K (nI t) n T (nI e)) t = (w_go K n lm e).2 ∧
    (oc ≠ 2 → ∀ l, l < 5 → d_pu T l = 0 → d_pu (m_go K (nI t) n T (nI e)) l = 0) ∧
    ∀ k w, DF ow t k w → fd (m_go K (nI t) n T (nI e)) k w = fd T k w := by
  have hna := Z.1
  have hsz := Z.2.2.1
  have hnt := Z.2.1
  have key : ∀ (T : Int64) (lm : LM) (x : Nat), x ≤ 8 → DL ow T t lm → DP P oc ow T t lm → DL ow (m_fi T (nI t) (nI x)) t lm ∧ DP P oc ow (m_fi T (nI t) (nI x)) t lm ∧ d_nx (m_fi T (nI t) (nI x)) t = x ∧ (oc ≠ 2 → ∀ l, l < 5 → d_pu T l = 0 → d_pu (m_fi T (nI t) (nI x)) l = 0) ∧ ∀ k w, DF ow t k w → fd (m_fi T (nI t) (nI x)) k w = fd T k w := by
    intro T lm x hx D1 D2
    refine ⟨fun l h1 h2 => ?_, fun h0 l h1 h2 => ?_, fi_nx (by omega) (by omega), fun _ l h1 h2 => ?_, fun k w h => fi_ne (by omega) (by omega) h.1⟩
    · have : d_va (m_fi T (nI t) (nI x)) l = d_va T l := fi_ne (by omega) (by omega) (by unfold dis; omega)
      rw [this]; exact D1 l h1 h2
    · have : d_pu (m_fi T (nI t) (nI x)) l = d_pu T l := fi_ne (by omega) (by omega) (by unfold dis; omega)
      rw [this]; exact D2 h0 l h1 h2
    · have : d_pu (m_fi T (nI t) (nI x)) l = d_pu T l := fi_ne (by omega) (by omega) (by unfold dis; omega)
      rw [this]; exact h2
  intro n
  induction n with
  | zero =>
    intro T lm e _ _ D1 D2
    exact key T lm 8 (by omega) D1 D2
  | succ n ih =>
    intro T lm e he hte D1 D2
    have hE := Z.2.2.2.2.2.2.2.1 e he
    obtain ⟨-, op, a1, a2, a3, a4, a5, -, -, a6, -, a7, a8, a9, -⟩ := hE
    unfold m_go w_go
    rw [ix_nI (show e < 2 ^ 31 by omega)]
    by_cases h10 : K 0 e = 10
    · rw [if_pos h10, if_pos h10]
      exact key T lm 8 (by omega) D1 D2
    · rw [if_neg h10, if_neg h10]
      by_cases h6 : K 6 e = -1
      · rw [if_pos h6, if_pos h6]
        have hw := w_step Z (lm := lm) he h10 h6
        have hnx : ((if K 0 e = 8 then K 5 e else if K 0 e = 7 then (if m_va T (K 1 e) = K 3 e then nI e + 1 else K 5 e) else nI e + 1) &&& 63) = nI (w_nx K lm e) := by
          have h63 : ∀ x, x < sz → nI x &&& 63 = nI x := fun x hx => by rw [pk_andN (by omega) 6 (by decide), Nat.mod_eq_of_lt (by omega)]
          have hsucc : op ≠ 10 := fun h => h10 (by rw [a1, h]; rfl)
          have hb := (a5 hsucc).1
          unfold w_nx
          by_cases h8 : K 0 e = 8
          · rw [if_pos h8, if_pos h8]
            rw [a1, show (8 : Int32) = nI 8 from rfl, nI_eq (by omega) (by omega)] at h8
            obtain ⟨j, c1, c2, c3, c4⟩ := a9 (Or.inr h8)
            rw [c1, ix_nI (by omega), h63 j c3]
          · rw [if_neg h8, if_neg h8]
            by_cases h7 : K 0 e = 7
            · rw [if_pos h7, if_pos h7]
              rw [a1, show (7 : Int32) = nI 7 from rfl, nI_eq (by omega) (by omega)] at h7
              obtain ⟨j, c1, c2, c3, c4⟩ := a9 (Or.inl h7)
              obtain ⟨l, l1, l2, l3⟩ := a6 (by omega)
              rw [l2, ix_nI (by omega), q_va l1, ← (D1 l l1 (l3.trans hte)).1]
              split
              · rw [nI_1, h63 _ hb]
              · rw [c1, ix_nI (by omega), h63 j c3]
            · rw [if_neg h7, if_neg h7, nI_1, h63 _ hb]
        rw [hnx]
        by_cases hs : K 0 e = 6
        · have hop : op = 6 := by
            rw [a1, show (6 : Int32) = nI 6 from rfl, nI_eq (by omega) (by omega)] at hs
            exact hs
          obtain ⟨l, l1, l2, l3⟩ := a6 (by omega)
          obtain ⟨b1, b2⟩ := a7 (by omega)
          rw [hte] at l3 b1
          obtain ⟨v, v1, v2, v3⟩ := w_su_v (K := K) (e := e) D1 b1 b2
          rw [if_pos hs, v3 (by omega), l2]
          have hlm : w_lm K lm e = (up_1 lm.1 l (nI v), up_1 lm.2 l 0) := by
            unfold w_lm
            rw [if_pos hs, l2, ix_nI (by omega), v2]
          rw [hlm]
          obtain ⟨r1, r2, r3, r4, r5⟩ := ih (m_sl T (nI l) (nI v) 0) (up_1 lm.1 l (nI v), up_1 lm.2 l 0) (w_nx K lm e) hw.1 (hw.2.1.trans hte) (by
            intro l' h1 h2
            by_cases hl : l' = l
            · subst hl
              show up_1 lm.1 l' (nI v) l' = _ ∧ _
              rw [up_same, sl_va h1 (by omega)]
              exact ⟨rfl, v1⟩
            · show up_1 lm.1 l (nI v) l' = _ ∧ _
              rw [up_ne hl, sl_va_ne l1 h1 (by omega) hl]
              exact D1 l' h1 h2) (by
            intro h0 l' h1 h2
            by_cases hl : l' = l
            · subst hl
              rw [sl_pu h1, if_pos rfl]
              constructor
              · intro h; omega
              · rintro ⟨m, h3, -⟩
                rw [show (up_1 lm.1 l' (nI v), up_1 lm.2 l' 0).2 l' = up_1 lm.2 l' 0 l' from rfl, up_same] at h3
                omega
            · rw [sl_pu_ne l1 h1 (by omega) hl]
              unfold xa_pub
              rw [show (up_1 lm.1 l (nI v), up_1 lm.2 l 0).2 l' = up_1 lm.2 l 0 l' from rfl, up_ne hl]
              exact D2 h0 l' h1 h2)
          refine ⟨r1, r2, r3, fun h0 l' h1 h2 => r4 h0 l' h1 ?_, fun k w h => (r5 k w h).trans (sl_ne l1 (by omega) (h.2 l l1 l3).1 (h.2 l l1 l3).2)⟩
          by_cases hl : l' = l
          · subst hl; rw [sl_pu h1, if_pos rfl]
          · rw [sl_pu_ne l1 h1 (by omega) hl]; exact h2
        · rw [if_neg hs]
          have hlm : w_lm K lm e = lm := by unfold w_lm; rw [if_neg hs]
          rw [hlm]
          exact ih T lm (w_nx K lm e) hw.1 (hw.2.1.trans hte) D1 D2
      · rw [if_neg h6, if_neg h6]
        have hop : op ≤ 5 := by
          apply Nat.le_of_not_lt
          intro h
          exact h6 (a4 h)
        obtain ⟨q, q1, q2, q3⟩ := a3 hop
        rw [q2, ix_nI (by omega)]
        exact key T lm q (by omega) D1 D2
end
