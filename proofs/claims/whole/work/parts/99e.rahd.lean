/-! ===== the reference's ahead, isSeen ===== -/
section
variable {x y : Int32} {Q Q' : Nat → Prop}
theorem mk8_0 : mk8 0 (fun _ => False) := ⟨0, by omega, rfl, fun k _ => by rw [Nat.zero_testBit]; exact ⟨fun e => absurd e (by decide), False.elim⟩⟩
theorem mk8_cg (h : ∀ k, k < 8 → (Q k ↔ Q' k)) (m : mk8 x Q) : mk8 x Q' := by
  obtain ⟨b, b1, b2, b3⟩ := m
  exact ⟨b, b1, b2, fun k hk => (b3 k hk).trans (h k hk)⟩
theorem mk8_or (m : mk8 x Q) (m' : mk8 y Q') : mk8 (x ||| y) (fun k => Q k ∨ Q' k) := by
  obtain ⟨b, b1, rfl, b3⟩ := m
  obtain ⟨c, c1, rfl, c3⟩ := m'
  refine ⟨b ||| c, or_256 b1 c1, nI_or (by omega) (by omega), fun k hk => ?_⟩
  rw [tb_or, b3 k hk, c3 k hk]
theorem mk8_1 {l : Nat} (hl : l < 8) : mk8 ((1 : Int32) <<< (nI l &&& 31)) (fun k => k = l) := by
  refine ⟨2 ^ l, ?_, nI_one (by omega), fun k hk => ?_⟩
  · calc 2 ^ l ≤ 2 ^ 7 := Nat.pow_le_pow_right (by decide) (by omega)
      _ < 256 := by decide
  · rw [tb_pw]
    exact eq_comm
theorem mk8_bit {k : Nat} (m : mk8 x Q) (hk : k < 8) : (x >>> (nI k &&& 31)) &&& (1 : Int32) = 1 ↔ Q k := by
  obtain ⟨b, b1, rfl, b3⟩ := m
  rw [← b3 k hk, nI_bit (by omega) (by omega), show (1 : Int32) = nI 1 from rfl, nI_eq (by omega) (by omega), Nat.testBit_eq_decide_div_mod_eq, decide_eq_true_iff]
theorem mk8_bit0 {k : Nat} (m : mk8 x Q) (hk : k < 8) : (x >>> (nI k &&& 31)) &&& (1 : Int32) = 0 ↔ ¬ Q k := by
  obtain ⟨b, b1, rfl, b3⟩ := m
  rw [← b3 k hk, nI_bit0 (by omega) (by omega), Bool.not_eq_true]
end
/-- the loop over the unlocks -/
def ah1 (F g : Nat → Int32) (k : Nat) : Nat → Nat → Int32 → Int32
  | 0, _, x => x
  | n + 1, i, x => ah1 F g k n (i + 1) (x ||| (if F (60 + 5 * k + 0) = 3 ∧ (g 129 >>> (nI i &&& 31)) &&& (1 : Int32) = 1 ∧ F (18 + 4 * i + 1) = 4 ∧ F (18 + 4 * i + 2) = F (60 + 5 * k + 2) then g (105 + i) ||| ((1 : Int32) <<< (nI i &&& 31)) else 0))
/-- the loop over done -/
def ah2 (F g : Nat → Int32) (w : Nat) : Nat → Nat → Int32 → Int32
  | 0, _, x => x
  | n + 1, i, x => ah2 F g w n (i + 1) (x ||| (if F (18 + 4 * i + 1) = 5 ∧ F (18 + 4 * w) = F 11 ∧ (g (105 + w) >>> (nI i &&& 31)) &&& (1 : Int32) = 1 then g (105 + i) ||| ((1 : Int32) <<< (nI i &&& 31)) else 0))
section
variable {h H : AH} {d s o t : Nat} {g F : Nat → Int32} {mo : Int32} {K : Nat → Nat → Int32} {te ow rx : Nat → Nat} {na nt sz : Nat} {V : Nat → Bool} {a : AS} {p : List Nat}
theorem c4n (i j : Nat) : (18 : Int32) + (4 : Int32) * nI i + (OfNat.ofNat j : Int32) = nI (18 + 4 * i + @OfNat.ofNat Nat j (instOfNatNat j)) := by rw [mu, ad, da]
theorem l_ah1 {k : Nat} (E : RE H s F o mo) (hd : d < 20) (h6 : F 6 = nI na) (h8 : na ≤ 8) (hk : k < 66) : ∀ n, n ≤ na → ∀ fu, n < fu → ∀ x, l_X11_ahead_47 fu 102 (nI d) (nI k) x (nI (na - n)) H = b_X11_ahead_151 102 (nI d) (nI k) (ah1 F (rowv H d) k n (na - n) x) H := by
  intro n
  have e6 : f_X11_of 102 (6 : Int32) H = some (nI na, H) := by rw [← h6]; exact x_of (k := 6) E (by omega)
  induction n with
  | zero =>
    intro _ fu hf x
    obtain ⟨fu, rfl⟩ : ∃ f, fu = f + 1 := ⟨fu - 1, by omega⟩
    show b_X11_ahead_47 (l_X11_ahead_47 fu) 102 (nI d) (nI k) x (nI (na - 0)) H = _
    unfold b_X11_ahead_47
    rw [x_ok E, Option.bind_some, e6, Option.bind_some, if_pos ((cmp_N (by omega) (by omega)).mpr (by omega))]
    rfl
  | succ n ih =>
    intro hn fu hf x
    obtain ⟨fu, rfl⟩ : ∃ f, fu = f + 1 := ⟨fu - 1, by omega⟩
    generalize hi : na - (n + 1) = i
    have i2 : nI i + (1 : Int32) = nI (na - n) := by rw [da]; congr 1; omega
    have next : ∀ y, l_X11_ahead_47 fu 102 (nI d) (nI k) y (nI i + 1) H = b_X11_ahead_151 102 (nI d) (nI k) (ah1 F (rowv H d) k n (na - n) y) H := fun y => by rw [i2]; exact ih (by omega) fu (by omega) y
    have key : ah1 F (rowv H d) k (n + 1) i x = ah1 F (rowv H d) k n (na - n) (x ||| (if F (60 + 5 * k + 0) = 3 ∧ (rowv H d 129 >>> (nI i &&& 31)) &&& (1 : Int32) = 1 ∧ F (18 + 4 * i + 1) = 4 ∧ F (18 + 4 * i + 2) = F (60 + 5 * k + 2) then rowv H d (105 + i) ||| ((1 : Int32) <<< (nI i &&& 31)) else 0)) := by
      show ah1 F (rowv H d) k n (i + 1) _ = _
      rw [show i + 1 = na - n by omega]
    rw [key]
    show b_X11_ahead_47 (l_X11_ahead_47 fu) 102 (nI d) (nI k) x (nI i) H = _
    unfold b_X11_ahead_47
    rw [x_ok E, Option.bind_some, e6, Option.bind_some, if_neg (fun e => by have := (cmp_N (by omega) (by omega)).mp e; omega)]
    have no : b_X11_ahead_121 (l_X11_ahead_47 fu) 102 (nI d) (nI k) x (nI i) H = b_X11_ahead_151 102 (nI d) (nI k) (ah1 F (rowv H d) k n (na - n) (x ||| 0)) H := by
      unfold b_X11_ahead_121 b_X11_ahead_122
      rw [if_pos rfl]
      unfold b_X11_ahead_141 b_X11_ahead_142
      exact next _
    have yes : b_X11_ahead_117 (l_X11_ahead_47 fu) 102 (nI d) (nI k) x (nI i) H = b_X11_ahead_151 102 (nI d) (nI k) (ah1 F (rowv H d) k n (na - n) (x ||| (rowv H d (105 + i) ||| ((1 : Int32) <<< (nI i &&& 31))))) H := by
      unfold b_X11_ahead_117 b_X11_ahead_122
      rw [if_neg (by decide)]
      unfold b_X11_ahead_131
      rw [x_ok E, Option.bind_some, x_with E hd (by omega), Option.bind_some]
      unfold b_X11_ahead_142
      exact next _
    unfold b_X11_ahead_58
    rw [x_ok E, Option.bind_some, show f_X11_instr 102 (nI k) (0 : Int32) H = _ from x_ins (k := 0) E (by omega), Option.bind_some]
    by_cases q1 : F (60 + 5 * k + 0) = 3
    · rw [if_pos q1]
      unfold b_X11_ahead_68
      rw [x_ok E, Option.bind_some, x_isd E hd, Option.bind_some]
      by_cases q2 : (rowv H d 129 >>> (nI i &&& 31)) &&& (1 : Int32) = 1
      · rw [if_pos q2, if_neg n10]
        unfold b_X11_ahead_78
        rw [x_ok E, Option.bind_some, c4n, x_of E (by omega), Option.bind_some]
        by_cases q3 : F (18 + 4 * i + 1) = 4
        · rw [if_pos q3]
          unfold b_X11_ahead_95
          rw [x_ok E, Option.bind_some, c4n, x_of E (by omega), Option.bind_some, x_ok E, Option.bind_some, show f_X11_instr 102 (nI k) (2 : Int32) H = _ from x_ins (k := 2) E (by omega), Option.bind_some]
          by_cases q4 : F (18 + 4 * i + 2) = F (60 + 5 * k + 2)
          · rw [if_pos q4, if_pos ⟨q1, q2, q3, q4⟩, yes]
          · rw [if_neg q4, if_neg (fun c => q4 c.2.2.2), no]
        · rw [if_neg q3, if_neg (fun c => q3 c.2.2.1), no]
      · rw [if_neg q2, if_pos rfl, if_neg (fun c => q2 c.2.1), no]
    · rw [if_neg q1, if_neg (fun c => q1 c.1), no]
theorem l_ah2 {w : Nat} (E : RE H s F o mo) (hd : d < 20) (h6 : F 6 = nI na) (h8 : na ≤ 8) (hw : w < 8) : ∀ n, n ≤ na → ∀ fu, n < fu → ∀ x, l_X11_ahead_213 fu 102 (nI d) x (nI w) (nI (na - n)) H = some (ah2 F (rowv H d) w n (na - n) x, H) := by
  intro n
  have e6 : f_X11_of 102 (6 : Int32) H = some (nI na, H) := by rw [← h6]; exact x_of (k := 6) E (by omega)
  induction n with
  | zero =>
    intro _ fu hf x
    obtain ⟨fu, rfl⟩ : ∃ f, fu = f + 1 := ⟨fu - 1, by omega⟩
    show b_X11_ahead_213 (l_X11_ahead_213 fu) 102 (nI d) x (nI w) (nI (na - 0)) H = _
    unfold b_X11_ahead_213
    rw [x_ok E, Option.bind_some, e6, Option.bind_some, if_pos ((cmp_N (by omega) (by omega)).mpr (by omega))]
    rfl
  | succ n ih =>
    intro hn fu hf x
    obtain ⟨fu, rfl⟩ : ∃ f, fu = f + 1 := ⟨fu - 1, by omega⟩
    generalize hi : na - (n + 1) = i
    have i2 : nI i + (1 : Int32) = nI (na - n) := by rw [da]; congr 1; omega
    have next : ∀ y, l_X11_ahead_213 fu 102 (nI d) y (nI w) (nI i + 1) H = some (ah2 F (rowv H d) w n (na - n) y, H) := fun y => by rw [i2]; exact ih (by omega) fu (by omega) y
    have key : ah2 F (rowv H d) w (n + 1) i x = ah2 F (rowv H d) w n (na - n) (x ||| (if F (18 + 4 * i + 1) = 5 ∧ F (18 + 4 * w) = F 11 ∧ (rowv H d (105 + w) >>> (nI i &&& 31)) &&& (1 : Int32) = 1 then rowv H d (105 + i) ||| ((1 : Int32) <<< (nI i &&& 31)) else 0)) := by
      show ah2 F (rowv H d) w n (i + 1) _ = _
      rw [show i + 1 = na - n by omega]
    rw [key]
    show b_X11_ahead_213 (l_X11_ahead_213 fu) 102 (nI d) x (nI w) (nI i) H = _
    unfold b_X11_ahead_213
    rw [x_ok E, Option.bind_some, e6, Option.bind_some, if_neg (fun e => by have := (cmp_N (by omega) (by omega)).mp e; omega)]
    unfold b_X11_ahead_224
    rw [if_neg (nI_ne1 (by omega))]
    have no : b_X11_ahead_290 (l_X11_ahead_213 fu) 102 (nI d) x (nI w) (nI i) H = some (ah2 F (rowv H d) w n (na - n) (x ||| 0), H) := by
      unfold b_X11_ahead_290 b_X11_ahead_291
      rw [if_pos rfl]
      unfold b_X11_ahead_310 b_X11_ahead_311
      exact next _
    have yes : b_X11_ahead_286 (l_X11_ahead_213 fu) 102 (nI d) x (nI w) (nI i) H = some (ah2 F (rowv H d) w n (na - n) (x ||| (rowv H d (105 + i) ||| ((1 : Int32) <<< (nI i &&& 31)))), H) := by
      unfold b_X11_ahead_286 b_X11_ahead_291
      rw [if_neg (by decide)]
      unfold b_X11_ahead_300
      rw [x_ok E, Option.bind_some, x_with E hd (by omega), Option.bind_some]
      unfold b_X11_ahead_311
      exact next _
    unfold b_X11_ahead_230
    rw [x_ok E, Option.bind_some, c4n, x_of E (by omega), Option.bind_some]
    by_cases q1 : F (18 + 4 * i + 1) = 5
    · rw [if_pos q1]
      unfold b_X11_ahead_247
      rw [x_ok E, Option.bind_some, mu, ad, x_of E (by omega), Option.bind_some, x_ok E, Option.bind_some, show f_X11_of 102 (11 : Int32) H = _ from x_of (k := 11) E (by omega), Option.bind_some]
      by_cases q2 : F (18 + 4 * w) = F 11
      · rw [if_pos q2]
        unfold b_X11_ahead_267
        rw [x_ok E, Option.bind_some, ad, x_st E hd (by omega), Option.bind_some]
        by_cases q3 : (rowv H d (105 + w) >>> (nI i &&& 31)) &&& (1 : Int32) = 1
        · rw [if_pos q3, if_pos ⟨q1, q2, q3⟩, yes]
        · rw [if_neg q3, if_neg (fun c => q3 c.2.2), no]
      · rw [if_neg q2, if_neg (fun c => q2 c.2.1), no]
    · rw [if_neg q1, if_neg (fun c => q1 c.1), no]
theorem m_ah1 {k : Nat} (hm : ∀ n, n < 8 → mk8 (g (105 + n)) (as_ea a n)) (hD : mk8 (g 129) (as_do a)) : ∀ n i x (Q : Nat → Prop), i + n ≤ 8 → mk8 x Q → mk8 (ah1 F g k n i x) (fun j => Q j ∨ ∃ l, i ≤ l ∧ l < i + n ∧ (F (60 + 5 * k + 0) = 3 ∧ as_do a l ∧ F (18 + 4 * l + 1) = 4 ∧ F (18 + 4 * l + 2) = F (60 + 5 * k + 2)) ∧ (j = l ∨ as_ea a l j)) := by
  intro n
  induction n with
  | zero => intro i x Q _ m; exact mk8_cg (fun j _ => ⟨Or.inl, fun c => c.elim id (fun ⟨l, l1, l2, _⟩ => by omega)⟩) m
  | succ n ih =>
    intro i x Q hi m
    have step : mk8 (x ||| (if F (60 + 5 * k + 0) = 3 ∧ (g 129 >>> (nI i &&& 31)) &&& (1 : Int32) = 1 ∧ F (18 + 4 * i + 1) = 4 ∧ F (18 + 4 * i + 2) = F (60 + 5 * k + 2) then g (105 + i) ||| ((1 : Int32) <<< (nI i &&& 31)) else 0)) (fun j => Q j ∨ ((F (60 + 5 * k + 0) = 3 ∧ as_do a i ∧ F (18 + 4 * i + 1) = 4 ∧ F (18 + 4 * i + 2) = F (60 + 5 * k + 2)) ∧ (j = i ∨ as_ea a i j))) := by
      have hb := mk8_bit (k := i) hD (by omega)
      refine mk8_or m ?_
      by_cases c : F (60 + 5 * k + 0) = 3 ∧ (g 129 >>> (nI i &&& 31)) &&& (1 : Int32) = 1 ∧ F (18 + 4 * i + 1) = 4 ∧ F (18 + 4 * i + 2) = F (60 + 5 * k + 2)
      · rw [if_pos c]
        exact mk8_cg (fun j _ => ⟨fun x => ⟨⟨c.1, hb.mp c.2.1, c.2.2⟩, x.symm⟩, fun x => x.2.symm⟩) (mk8_or (hm i (by omega)) (mk8_1 (by omega)))
      · rw [if_neg c]
        exact mk8_cg (fun j _ => ⟨False.elim, fun x => c ⟨x.1.1, hb.mpr x.1.2.1, x.1.2.2⟩⟩) mk8_0
    refine mk8_cg (fun j _ => ?_) (ih (i + 1) _ _ (by omega) step)
    constructor
    · rintro ((q | q) | ⟨l, l1, l2, l3⟩)
      · exact Or.inl q
      · exact Or.inr ⟨i, by omega, by omega, q⟩
      · exact Or.inr ⟨l, by omega, by omega, l3⟩
    · rintro (q | ⟨l, l1, l2, l3⟩)
      · exact Or.inl (Or.inl q)
      · by_cases e : l = i
        · subst e; exact Or.inl (Or.inr l3)
        · exact Or.inr ⟨l, by omega, by omega, l3⟩
theorem m_ah2 {w : Nat} (hm : ∀ n, n < 8 → mk8 (g (105 + n)) (as_ea a n)) (hw : w < 8) : ∀ n i x (Q : Nat → Prop), i + n ≤ 8 → mk8 x Q → mk8 (ah2 F g w n i x) (fun j => Q j ∨ ∃ l, i ≤ l ∧ l < i + n ∧ (F (18 + 4 * l + 1) = 5 ∧ F (18 + 4 * w) = F 11 ∧ as_ea a w l) ∧ (j = l ∨ as_ea a l j)) := by
  intro n
  induction n with
  | zero => intro i x Q _ m; exact mk8_cg (fun j _ => ⟨Or.inl, fun c => c.elim id (fun ⟨l, l1, l2, _⟩ => by omega)⟩) m
  | succ n ih =>
    intro i x Q hi m
    have step : mk8 (x ||| (if F (18 + 4 * i + 1) = 5 ∧ F (18 + 4 * w) = F 11 ∧ (g (105 + w) >>> (nI i &&& 31)) &&& (1 : Int32) = 1 then g (105 + i) ||| ((1 : Int32) <<< (nI i &&& 31)) else 0)) (fun j => Q j ∨ ((F (18 + 4 * i + 1) = 5 ∧ F (18 + 4 * w) = F 11 ∧ as_ea a w i) ∧ (j = i ∨ as_ea a i j))) := by
      have hb := mk8_bit (k := i) (hm w hw) (by omega)
      refine mk8_or m ?_
      by_cases c : F (18 + 4 * i + 1) = 5 ∧ F (18 + 4 * w) = F 11 ∧ (g (105 + w) >>> (nI i &&& 31)) &&& (1 : Int32) = 1
      · rw [if_pos c]
        exact mk8_cg (fun j _ => ⟨fun x => ⟨⟨c.1, c.2.1, hb.mp c.2.2⟩, x.symm⟩, fun x => x.2.symm⟩) (mk8_or (hm i (by omega)) (mk8_1 (by omega)))
      · rw [if_neg c]
        exact mk8_cg (fun j _ => ⟨False.elim, fun x => c ⟨x.1.1, x.1.2.1, hb.mpr x.1.2.2⟩⟩) mk8_0
    refine mk8_cg (fun j _ => ?_) (ih (i + 1) _ _ (by omega) step)
    constructor
    · rintro ((q | q) | ⟨l, l1, l2, l3⟩)
      · exact Or.inl q
      · exact Or.inr ⟨i, by omega, by omega, q⟩
      · exact Or.inr ⟨l, by omega, by omega, l3⟩
    · rintro (q | ⟨l, l1, l2, l3⟩)
      · exact Or.inl (Or.inl q)
      · by_cases e : l = i
        · subst e; exact Or.inl (Or.inr l3)
        · exact Or.inr ⟨l, by omega, by omega, l3⟩
/-- ahead, up to its end by the kind of instruction -/
theorem x_ah0 {k : Nat} (E : RE H s F o mo) (hd : d < 20) (ht : t < 4) (h6 : F 6 = nI na) (h8 : na ≤ 8) (hk : k < 66) (hpc : rowv H d t = nI k) (hl : rowv H d (130 + t) = -1 ∨ ∃ n, n < 8 ∧ rowv H d (130 + t) = nI n) :
    f_X11_ahead 102 (nI d) (nI t) H = b_X11_ahead_151 102 (nI d) (nI k) (ah1 F (rowv H d) k na 0 (if rowv H d (130 + t) = -1 then 0 else rowv H d (105 + ix (rowv H d (130 + t))) ||| ((1 : Int32) <<< (rowv H d (130 + t) &&& 31)))) H := by
  have z : (0 : Int32) + nI t = nI t := by rw [ad, Nat.zero_add]
  unfold f_X11_ahead b_X11_ahead_0
  rw [x_ok E, Option.bind_some, z, x_st E hd (by omega), Option.bind_some, x_ok E, Option.bind_some, ad, x_st E hd (by omega), Option.bind_some, hpc]
  have lp := fun x => l_ah1 E hd h6 h8 hk na (Nat.le_refl _) fu_ (by show na < 200000; omega) x
  rw [Nat.sub_self] at lp
  obtain c | ⟨n, n8, c⟩ := hl
  · rw [if_pos c, if_pos c]
    unfold b_X11_ahead_23 b_X11_ahead_42
    exact lp _
  · rw [if_neg (by rw [c]; exact nI_ne1 (by omega)), if_neg (by rw [c]; exact nI_ne1 (by omega))]
    unfold b_X11_ahead_27
    rw [x_ok E, Option.bind_some, ad, x_st E hd (by omega), Option.bind_some, x_ok E, Option.bind_some, c, x_with E hd (by omega), Option.bind_some, ix_nI (by omega)]
    unfold b_X11_ahead_42
    exact lp _
end
