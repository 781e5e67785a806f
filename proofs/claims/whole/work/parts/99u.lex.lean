/-! ===== the texts' tokens: a pure lexer; the reference's look0 ===== -/
def isw (b : Nat) : Bool := (decide (97 ≤ b) && decide (b ≤ 122)) || (decide (65 ≤ b) && decide (b ≤ 90)) || (decide (48 ≤ b) && decide (b ≤ 57))
def issp (b : Nat) : Bool := decide (b = 32) || decide (b = 10)
def lskip (tp : Nat → Nat) (n : Nat) : Nat → Nat → Nat
  | 0, i => i
  | f + 1, i => if i < n ∧ issp (tp i) = true then lskip tp n f (i + 1) else i
def lword (tp : Nat → Nat) (n : Nat) : Nat → Nat → Nat
  | 0, i => i
  | f + 1, i => if i < n ∧ isw (tp i) = true then lword tp n f (i + 1) else i
def wbs (tp : Nat → Nat) (p q : Nat) : List Nat := (List.range' p (q - p)).map tp
def wlist : List (List Nat) := [[112, 108, 97, 105, 110], [118, 111, 108, 97, 116, 105, 108, 101], [102, 105, 110, 97, 108], [116, 104, 114, 101, 97, 100], [108, 111, 99, 107], [117, 110, 108, 111, 99, 107], [100, 111, 110, 101], [105, 102], [101, 108, 115, 101]]
def wfind (bs : List Nat) : Nat → Nat → Nat → Nat
  | 0, _, d => d
  | f + 1, k, d => wfind bs f (k + 1) (if wlist.getD k [] = bs then 200 + k else d)
def wbase (bs : List Nat) : Nat :=
  if bs.length = 1 ∧ 117 ≤ bs.getD 0 0 ∧ bs.getD 0 0 ≤ 122 then 300 + (bs.getD 0 0 - 117)
  else if bs.length = 1 ∧ 48 ≤ bs.getD 0 0 ∧ bs.getD 0 0 ≤ 57 then 600 + (bs.getD 0 0 - 48)
  else if bs.length = 2 ∧ bs.getD 0 0 = 114 ∧ 48 ≤ bs.getD 1 0 ∧ bs.getD 1 0 ≤ 52 then 400 + (bs.getD 1 0 - 48)
  else if bs.length = 2 ∧ bs.getD 0 0 = 109 ∧ 48 ≤ bs.getD 1 0 ∧ bs.getD 1 0 ≤ 49 then 500 + (bs.getD 1 0 - 48)
  else 100
def wcode (bs : List Nat) : Nat := wfind bs 9 0 (wbase bs)
def scode (b : Nat) (e : Bool) : Nat := if b = 59 then 700 else if b = 61 then (if e = true then 702 else 701) else if b = 46 then 703 else if b = 43 then 704 else if b = 123 then 705 else if b = 125 then 706 else 100
def lx (tp : Nat → Nat) (n i : Nat) : Nat × Nat × Nat :=
  if n ≤ lskip tp n 1001 i then (0, lskip tp n 1001 i, lskip tp n 1001 i)
  else if isw (tp (lskip tp n 1001 i)) = true then (wcode (wbs tp (lskip tp n 1001 i) (lword tp n 1001 (lskip tp n 1001 i))), lskip tp n 1001 i, lword tp n 1001 (lskip tp n 1001 i))
  else (scode (tp (lskip tp n 1001 i)) (decide (lskip tp n 1001 i + 1 < n) && decide (tp (lskip tp n 1001 i + 1) = 61)), lskip tp n 1001 i, lskip tp n 1001 i + if scode (tp (lskip tp n 1001 i)) (decide (lskip tp n 1001 i + 1 < n) && decide (tp (lskip tp n 1001 i + 1) = 61)) = 702 then 2 else 1)
def tpos (tp : Nat → Nat) (n : Nat) : Nat → Nat
  | 0 => 0
  | j + 1 => (lx tp n (tpos tp n j)).2.2
def tk (tp : Nat → Nat) (n j : Nat) : Nat × Nat × Nat := lx tp n (tpos tp n j)
section
variable {tp : Nat → Nat} {n : Nat}
theorem lskip_p : ∀ f i, i ≤ n → n < i + f → i ≤ lskip tp n f i ∧ lskip tp n f i ≤ n ∧ (∀ k, i ≤ k → k < lskip tp n f i → issp (tp k) = true) ∧ (lskip tp n f i < n → issp (tp (lskip tp n f i)) = false) := by
  intro f
  induction f with
  | zero => intro i h1 h2; omega
  | succ f ih =>
    intro i h1 h2
    unfold lskip
    by_cases c : i < n ∧ issp (tp i) = true
    · rw [if_pos c]
      obtain ⟨a1, a2, a3, a4⟩ := ih (i + 1) (by omega) (by omega)
      refine ⟨by omega, a2, fun k k1 k2 => ?_, a4⟩
      by_cases e : k = i
      · rw [e]; exact c.2
      · exact a3 k (by omega) k2
    · rw [if_neg c]
      refine ⟨Nat.le_refl _, h1, fun k k1 k2 => by omega, fun h => ?_⟩
      exact Bool.eq_false_iff.mpr (fun x => c ⟨h, x⟩)
theorem lword_p : ∀ f i, i ≤ n → n < i + f → i ≤ lword tp n f i ∧ lword tp n f i ≤ n ∧ (∀ k, i ≤ k → k < lword tp n f i → isw (tp k) = true) ∧ (lword tp n f i < n → isw (tp (lword tp n f i)) = false) := by
  intro f
  induction f with
  | zero => intro i h1 h2; omega
  | succ f ih =>
    intro i h1 h2
    unfold lword
    by_cases c : i < n ∧ isw (tp i) = true
    · rw [if_pos c]
      obtain ⟨a1, a2, a3, a4⟩ := ih (i + 1) (by omega) (by omega)
      refine ⟨by omega, a2, fun k k1 k2 => ?_, a4⟩
      by_cases e : k = i
      · rw [e]; exact c.2
      · exact a3 k (by omega) k2
    · rw [if_neg c]
      refine ⟨Nat.le_refl _, h1, fun k k1 k2 => by omega, fun h => ?_⟩
      exact Bool.eq_false_iff.mpr (fun x => c ⟨h, x⟩)
/-- what a token is -/
theorem lx_p {i : Nat} (hn : n ≤ 1000) (hi : i ≤ n) : i ≤ (lx tp n i).2.1 ∧ (lx tp n i).2.1 ≤ n ∧ (lx tp n i).2.1 ≤ (lx tp n i).2.2 ∧ (lx tp n i).2.2 ≤ n ∧ ((lx tp n i).2.1 < n → (lx tp n i).2.1 < (lx tp n i).2.2) ∧ (∀ k, i ≤ k → k < (lx tp n i).2.1 → issp (tp k) = true) ∧ (n ≤ (lx tp n i).2.1 → (lx tp n i).1 = 0 ∧ (lx tp n i).2.2 = n) := by
  obtain ⟨a1, a2, a3, a4⟩ := lskip_p (tp := tp) (n := n) 1001 i hi (by omega)
  unfold lx
  by_cases c : n ≤ lskip tp n 1001 i
  · rw [if_pos c]
    exact ⟨a1, a2, Nat.le_refl _, a2, fun h => by exact absurd h (Nat.not_lt.mpr c), a3, fun _ => ⟨rfl, by show lskip tp n 1001 i = n; omega⟩⟩
  · rw [if_neg c]
    by_cases cw : isw (tp (lskip tp n 1001 i)) = true
    · rw [if_pos cw]
      obtain ⟨b1, b2, b3, b4⟩ := lword_p (tp := tp) (n := n) 1001 (lskip tp n 1001 i) a2 (by omega)
      have lt : lskip tp n 1001 i < lword tp n 1001 (lskip tp n 1001 i) := by
        apply Classical.byContradiction
        intro h
        have e : lword tp n 1001 (lskip tp n 1001 i) = lskip tp n 1001 i := by omega
        have := b4 (by omega)
        rw [e, cw] at this
        cases this
      exact ⟨a1, a2, b1, b2, fun _ => lt, a3, fun h => absurd h c⟩
    · rw [if_neg cw]
      refine ⟨a1, a2, ?_, ?_, fun _ => ?_, a3, fun h => absurd h c⟩
      · show lskip tp n 1001 i ≤ lskip tp n 1001 i + _
        omega
      · show lskip tp n 1001 i + (if scode (tp (lskip tp n 1001 i)) (decide (lskip tp n 1001 i + 1 < n) && decide (tp (lskip tp n 1001 i + 1) = 61)) = 702 then 2 else 1) ≤ n
        by_cases e : decide (lskip tp n 1001 i + 1 < n) && decide (tp (lskip tp n 1001 i + 1) = 61)
        · have := of_decide_eq_true (Bool.and_eq_true_iff.mp e).1
          split <;> omega
        · have e' : (decide (lskip tp n 1001 i + 1 < n) && decide (tp (lskip tp n 1001 i + 1) = 61)) = false := Bool.eq_false_iff.mpr e
          rw [e']
          have : ¬ scode (tp (lskip tp n 1001 i)) false = 702 := by
            unfold scode
            split
            · decide
            · split
              · decide
              · split
                · decide
                · split
                  · decide
                  · split
                    · decide
                    · split <;> decide
          rw [if_neg this]
          omega
      · show lskip tp n 1001 i < lskip tp n 1001 i + _
        split <;> omega
theorem tpos_le (hn : n ≤ 1000) : ∀ j, tpos tp n j ≤ n := by
  intro j
  induction j with
  | zero => exact Nat.zero_le _
  | succ j ih => exact (lx_p hn ih).2.2.2.1
end
/-! a heap with one row set -/
def sI (h : AH) (r : Nat) (f : Nat → Int32) : AH := (hp_n h, hp_s h, hp_k h, hp_l h, (fun r' k => if r' = r then f k else hp_i h r' k), hp_j h, hp_r h)
section
variable {h : AH} {r r' k : Nat} {f f' : Nat → Int32} {v : Int32}
theorem sI_s : hp_i (sI h r f) r = f := by funext k; exact if_pos rfl
theorem sI_n (hr : r' ≠ r) : hp_i (sI h r f) r' = hp_i h r' := by funext k; exact if_neg hr
theorem sI_st : st_i (sI h r f) r k v = sI h r (up_1 f k v) := by
  refine ah_i rfl rfl rfl rfl ?_ rfl rfl
  funext r' j
  show (if r' = r ∧ j = k then v else (if r' = r then f j else hp_i h r' j)) = (if r' = r then (if j = k then v else f j) else hp_i h r' j)
  by_cases c : r' = r
  · rw [if_pos c, if_pos c]
    by_cases c2 : j = k
    · rw [if_pos ⟨c, c2⟩, if_pos c2]
    · rw [if_neg (fun x => c2 x.2), if_neg c2]
  · rw [if_neg c, if_neg c, if_neg (fun x => c x.1)]
theorem sI_eta : sI h r (hp_i h r) = h := by
  refine ah_i rfl rfl rfl rfl ?_ rfl rfl
  funext r' j
  show (if r' = r then hp_i h r j else hp_i h r' j) = _
  by_cases c : r' = r
  · rw [if_pos c, c]
  · rw [if_neg c]
theorem sI_sI : sI (sI h r f) r f' = sI h r f' := by
  refine ah_i rfl rfl rfl rfl ?_ rfl rfl
  funext r' j
  show (if r' = r then f' j else (if r' = r then f j else hp_i h r' j)) = (if r' = r then f' j else hp_i h r' j)
  split <;> rfl
theorem rz_sI (R : RZ h) : RZ (sI h r f) := R
end
/-- the reference's tape -/
def TPr (h : AH) (n : Nat) (tp : Nat → Nat) : Prop := n ≤ 1000 ∧ (∀ k, k < n → tp k < 256) ∧ ∀ k, k < n → hp_i h 103 k = nI (tp k)
section
variable {h : AH} {tp : Nat → Nat} {n : Nat} {f : Nat → Int32} {k : Nat}
theorem y_g (R : RZ h) : g_i (sI h 102 f) 102 11 k = some (f k) := by
  rw [rz_g (rz_sI R), sI_s]
theorem y_p {v : Int32} (R : RZ h) : p_i (sI h 102 f) 102 11 k v = some (sI h 102 (up_1 f k v)) := by
  rw [rz_p (rz_sI R), sI_st]
theorem y_see (R : RZ h) (T : TPr h n tp) (hf : f 3 = nI n) (hk : k ≤ 1002) : f_X11_see 102 (nI k) (sI h 102 f) = some (if k < n then nI (tp k) else -1, sI h 102 f) := by
  have hn := T.1
  unfold f_X11_see b_X11_see_0
  rw [y_g R, Option.bind_some, hf]
  by_cases c : k < n
  · rw [if_neg (nI_ge c (by omega)), if_pos c]
    unfold b_X11_see_8
    rw [rz_r (f := 1) (r := 103) (l := 1000) (rz_sI R) (by decide), Option.bind_some, rz_l (f := 1) (r := 103) (l := 1000) (rz_sI R) (by decide) (by omega) (by omega), Option.bind_some, sI_n (by decide), T.2.2 k c]
    rfl
  · rw [if_pos (nI_le (by omega) (by omega)), if_neg c]
    rfl
theorem x_in {b lo hi : Nat} {H : AH} (hb : b < 2 ^ 31) (hl : lo < 2 ^ 31) (hh : hi < 2 ^ 31) : f_X11_isIn (nI b) (nI lo) (nI hi) H = some (if lo ≤ b ∧ b ≤ hi then 1 else 0, H) := by
  unfold f_X11_isIn b_X11_isIn_0
  by_cases c : b < lo
  · rw [if_pos (nI_lt c hl), if_neg (by omega)]
    exact ok_z_0
  · rw [if_neg (nI_nlt (by omega) hb)]
    unfold b_X11_isIn_5
    by_cases c2 : hi < b
    · rw [if_pos (nI_lt c2 hb), if_neg (by omega)]
      exact ok_z_0
    · rw [if_neg (nI_nlt (by omega) hh), if_pos ⟨by omega, by omega⟩]
      exact ok_z_1
theorem x_in1 {lo hi : Nat} {H : AH} (hl : lo < 2 ^ 31) : f_X11_isIn (-1) (nI lo) (nI hi) H = some (0, H) := by
  unfold f_X11_isIn b_X11_isIn_0
  rw [if_pos (by
    rw [i_lt, nI_toInt hl]
    show (-1 : Int) < _
    omega)]
  exact ok_z_0
theorem x_wly {b : Nat} {H : AH} (hb : b < 2 ^ 31) : f_X11_isWordly (nI b) H = some (if isw b = true then 1 else 0, H) := by
  have e : isw b = true ↔ (97 ≤ b ∧ b ≤ 122) ∨ (65 ≤ b ∧ b ≤ 90) ∨ (48 ≤ b ∧ b ≤ 57) := by
    unfold isw
    simp only [Bool.or_eq_true, Bool.and_eq_true, decide_eq_true_iff, or_assoc]
  unfold f_X11_isWordly b_X11_isWordly_0
  rw [show f_X11_isIn (nI b) (97 : Int32) (122 : Int32) H = _ from x_in (lo := 97) (hi := 122) hb (by omega) (by omega), Option.bind_some]
  by_cases c1 : 97 ≤ b ∧ b ≤ 122
  · rw [if_pos c1, if_neg n10, if_pos (e.mpr (Or.inl c1))]
    exact ok_z_1
  · rw [if_neg c1, if_pos rfl]
    unfold b_X11_isWordly_11
    rw [show f_X11_isIn (nI b) (65 : Int32) (90 : Int32) H = _ from x_in (lo := 65) (hi := 90) hb (by omega) (by omega), Option.bind_some]
    by_cases c2 : 65 ≤ b ∧ b ≤ 90
    · rw [if_pos c2, if_neg n10, if_pos (e.mpr (Or.inr (Or.inl c2)))]
      exact ok_z_1
    · rw [if_neg c2, if_pos rfl]
      unfold b_X11_isWordly_22
      rw [show f_X11_isIn (nI b) (48 : Int32) (57 : Int32) H = _ from x_in (lo := 48) (hi := 57) hb (by omega) (by omega), Option.bind_some]
      by_cases c3 : 48 ≤ b ∧ b ≤ 57
      · rw [if_pos c3, if_neg n10, if_pos (e.mpr (Or.inr (Or.inr c3)))]
        exact ok_z_1
      · rw [if_neg c3, if_pos rfl, if_neg (fun x => by have := e.mp x; omega)]
        exact ok_z_0
theorem x_wly1 {H : AH} : f_X11_isWordly (-1) H = some (0, H) := by
  unfold f_X11_isWordly b_X11_isWordly_0
  rw [show f_X11_isIn (-1) (97 : Int32) (122 : Int32) H = _ from x_in1 (lo := 97) (hi := 122) (by omega), Option.bind_some, if_pos rfl]
  unfold b_X11_isWordly_11
  rw [show f_X11_isIn (-1) (65 : Int32) (90 : Int32) H = _ from x_in1 (lo := 65) (hi := 90) (by omega), Option.bind_some, if_pos rfl]
  unfold b_X11_isWordly_22
  rw [show f_X11_isIn (-1) (48 : Int32) (57 : Int32) H = _ from x_in1 (lo := 48) (hi := 57) (by omega), Option.bind_some, if_pos rfl]
  exact ok_z_0
end
/-! the packed word -/
def wpk (w : Int64) (b : Nat) : Int64 := (w <<< ((8 : Int32).toInt64 &&& 63)) ||| (nI b).toInt64
def pkN (bs : List Nat) : Nat := bs.foldl (fun w b => 256 * w + b) 0
def pk64 (bs : List Nat) : Int64 := bs.foldl wpk 0
theorem wpk_n {w : Int64} {b : Nat} (hw : w.toBitVec.toNat < 2 ^ 56) (hb : b < 256) : (wpk w b).toBitVec.toNat = 256 * w.toBitVec.toNat + b := by
  have e1 : wpk w b = m_or (nI b).toInt64 w (nI 8) := by
    unfold wpk m_or
    rw [Int64.or_comm]
    rfl
  have eb : (nI b).toInt64.toBitVec.toNat = b := by
    rw [nI_l (by omega)]
    exact Nat.mod_eq_of_lt (by omega)
  rw [e1]
  apply Nat.eq_of_testBit_eq
  intro i
  rw [or_tb (by omega), eb]
  have : 256 * w.toBitVec.toNat + b = 2 ^ 8 * w.toBitVec.toNat ||| b := Nat.two_pow_add_eq_or_of_lt (i := 8) (b := b) hb w.toBitVec.toNat
  rw [this, Nat.testBit_or, Nat.testBit_two_pow_mul, Bool.or_comm]
  congr 1
  by_cases c : i < 64
  · rw [decide_eq_true c, Bool.true_and]
  · rw [decide_eq_false c, Bool.false_and, Bool.false_and]
    have : w.toBitVec.toNat.testBit (i - 8) = false := nt_tb0 hw (by omega)
    rw [this, Bool.and_false]
theorem pkN_lt : ∀ (bs : List Nat) (w k : Nat), (∀ b, b ∈ bs → b < 256) → w < 256 ^ k → bs.foldl (fun w b => 256 * w + b) w < 256 ^ (k + bs.length) := by
  intro bs
  induction bs with
  | nil => intro w k _ h; exact h
  | cons b bs ih =>
    intro w k hb hw
    have := ih (256 * w + b) (k + 1) (fun x hx => hb x (List.mem_cons_of_mem _ hx)) (by
      have := hb b List.mem_cons_self
      rw [Nat.pow_succ]
      omega)
    rw [List.foldl_cons, List.length_cons, show k + (bs.length + 1) = k + 1 + bs.length by omega]
    exact this
theorem pk64_n : ∀ (bs : List Nat) (w : Int64) (k : Nat), (∀ b, b ∈ bs → b < 256) → w.toBitVec.toNat < 256 ^ k → k + bs.length ≤ 8 → (bs.foldl wpk w).toBitVec.toNat = bs.foldl (fun w b => 256 * w + b) w.toBitVec.toNat := by
  intro bs
  induction bs with
  | nil => intro w k _ _ _; rfl
  | cons b bs ih =>
    intro w k hb hw hk
    rw [List.length_cons] at hk
    have h7 : (256 : Nat) ^ k ≤ 256 ^ 7 := Nat.pow_le_pow_right (by decide) (by omega)
    have e := wpk_n (w := w) (b := b) (Nat.lt_of_lt_of_le hw h7) (hb b List.mem_cons_self)
    rw [List.foldl_cons, List.foldl_cons, ih (wpk w b) (k + 1) (fun x hx => hb x (List.mem_cons_of_mem _ hx)) (by
      rw [e, Nat.pow_succ]
      have := hb b List.mem_cons_self
      omega) (by omega), e]
theorem pkN_inj : ∀ (n : Nat) (as bs : List Nat), as.length + bs.length ≤ n → (∀ b, b ∈ as → 0 < b ∧ b < 256) → (∀ b, b ∈ bs → 0 < b ∧ b < 256) → pkN as = pkN bs → as = bs := by
  have snoc : ∀ (l : List Nat) (b : Nat), pkN (l ++ [b]) = 256 * pkN l + b := fun l b => by unfold pkN; rw [List.foldl_append]; rfl
  have sp : ∀ l : List Nat, l = [] ∨ ∃ l' b, l = l' ++ [b] := fun l => by
    cases l with
    | nil => exact Or.inl rfl
    | cons x xs => exact Or.inr ⟨_, _, (List.dropLast_concat_getLast (List.cons_ne_nil x xs)).symm⟩
  intro n
  induction n with
  | zero =>
    intro as bs h _ _ _
    have h1 : as.length = 0 := by omega
    have h2 : bs.length = 0 := by omega
    rw [List.length_eq_zero_iff.mp h1, List.length_eq_zero_iff.mp h2]
  | succ n ih =>
    intro as bs h ha hb e
    obtain rfl | ⟨as', a, rfl⟩ := sp as
    · obtain rfl | ⟨bs', b, rfl⟩ := sp bs
      · rfl
      · rw [snoc] at e
        have := (hb b (List.mem_append.mpr (Or.inr (List.mem_singleton.mpr rfl)))).1
        have e0 : pkN [] = 0 := rfl
        omega
    · obtain rfl | ⟨bs', b, rfl⟩ := sp bs
      · rw [snoc] at e
        have := (ha a (List.mem_append.mpr (Or.inr (List.mem_singleton.mpr rfl)))).1
        have e0 : pkN [] = 0 := rfl
        omega
      · rw [snoc, snoc] at e
        have a1 := (ha a (List.mem_append.mpr (Or.inr (List.mem_singleton.mpr rfl)))).2
        have b1 := (hb b (List.mem_append.mpr (Or.inr (List.mem_singleton.mpr rfl)))).2
        have e1 : pkN as' = pkN bs' := by omega
        have e2 : a = b := by omega
        rw [List.length_append, List.length_append] at h
        rw [ih as' bs' (by have : as'.length + 1 + (bs'.length + 1) ≤ n + 1 := h; omega) (fun x hx => ha x (List.mem_append.mpr (Or.inl hx))) (fun x hx => hb x (List.mem_append.mpr (Or.inl hx))) e1, e2]
