/-! ===== print: the tokens' text ===== -/
def gpk (pv : Nat) (bg : Bool) (t : Nat) : List Nat := if bg = true then [] else if t = 700 ∨ t = 703 ∨ pv = 703 then [] else [32]
def enk (t nx : Nat) : Bool := decide (t = 700 ∨ t = 705 ∨ (t = 706 ∧ nx ≠ 208))
def rbl : Nat → Bool → List Nat → Nat → List Nat
  | _, _, [], _ => []
  | pv, bg, t :: ts, nx => gpk pv bg t ++ tkb t ++ (if enk t (ts.headD nx) = true then [10] else []) ++ rbl t (enk t (ts.headD nx)) ts nx
section
variable {pv t nx : Nat} {ts : List Nat}
theorem rb_t {l : List Nat} : rbl pv true l nx = rbl 0 true l nx := by
  cases l with
  | nil => rfl
  | cons t ts => rfl
theorem rb_g {bg : Bool} : rbl pv bg (t :: ts) nx = gpk pv bg t ++ tkb t ++ (if enk t (ts.headD nx) = true then [10] else []) ++ rbl t (enk t (ts.headD nx)) ts nx := rfl
theorem rb_n {bg : Bool} (h : ¬ (t = 700 ∨ t = 705 ∨ t = 706)) : rbl pv bg (t :: ts) nx = gpk pv bg t ++ (tkb t ++ rbl t false ts nx) := by
  have e : enk t (ts.headD nx) = false := decide_eq_false (fun z => h (z.imp id (fun y => y.imp id (fun w => w.1))))
  rw [rb_g, e, if_neg Bool.false_ne_true, List.append_nil, List.append_assoc]
theorem rb_e {bg : Bool} (h : t = 700 ∨ t = 705 ∨ (t = 706 ∧ ts.headD nx ≠ 208)) : rbl pv bg (t :: ts) nx = gpk pv bg t ++ (tkb t ++ (10 :: rbl 0 true ts nx)) := by
  have e : enk t (ts.headD nx) = true := decide_eq_true h
  rw [rb_g, e, if_pos rfl, rb_t, List.append_assoc, List.append_assoc]
  rfl
theorem rb_c {bg : Bool} (h : ts.headD nx = 208) : rbl pv bg (706 :: ts) nx = gpk pv bg 706 ++ (tkb 706 ++ rbl 706 false ts nx) := by
  have e : enk 706 (ts.headD nx) = false := decide_eq_false (fun z => by
    rcases z with z | z | z
    · omega
    · omega
    · exact z.2 h)
  rw [rb_g, e, if_neg Bool.false_ne_true, List.append_nil, List.append_assoc]
theorem gk_t : gpk pv true t = [] := if_pos rfl
theorem gk_f (h : ¬ (t = 700 ∨ t = 703 ∨ pv = 703)) : gpk pv false t = [32] := (if_neg Bool.false_ne_true).trans (if_neg h)
theorem gk_0 (h : t = 700 ∨ t = 703 ∨ pv = 703) : gpk pv false t = [] := (if_neg Bool.false_ne_true).trans (if_pos h)
theorem tb_3 {c : Nat} (h : c < 100) : tkb (300 + c) = [117 + c] := by
  unfold tkb
  rw [show (300 + c) / 100 = 3 by omega, show (300 + c) % 100 = c by omega]; rfl
theorem tb_4 {c : Nat} (h : c < 100) : tkb (400 + c) = [114, 48 + c] := by
  unfold tkb
  rw [show (400 + c) / 100 = 4 by omega, show (400 + c) % 100 = c by omega]; rfl
theorem tb_5 {c : Nat} (h : c < 100) : tkb (500 + c) = [109, 48 + c] := by
  unfold tkb
  rw [show (500 + c) / 100 = 5 by omega, show (500 + c) % 100 = c by omega]; rfl
theorem tb_6 {c : Nat} (h : c < 100) : tkb (600 + c) = [48 + c] := by
  unfold tkb
  rw [show (600 + c) / 100 = 6 by omega, show (600 + c) % 100 = c by omega]; rfl
/-- an expression and its end -/
theorem rb_x {bs dg : Int32} {Y : List Nat} (hb : bs = -1 ∨ ∃ b, b < 5 ∧ bs = nI b) (hd : dg = -1 ∨ ∃ d, d ≤ 9 ∧ dg = nI d) (hn : bs = -1 → dg ≠ -1) : rbl 701 false (rnx bs dg ++ (700 :: Y)) nx = bex bs dg ++ (59 :: 10 :: rbl 0 true Y nx) := by
  have e700 : ∀ pv, rbl pv false (700 :: Y) nx = 59 :: 10 :: rbl 0 true Y nx := fun pv => by
    rw [rb_e (Or.inl rfl), gk_0 (Or.inl rfl)]; rfl
  unfold rnx bex
  rcases hb with zb | ⟨b, b1, b2⟩
  · rw [if_pos zb, if_pos zb]
    obtain ⟨k, k1, k2⟩ := hd.resolve_left (hn zb)
    have e : ix dg = k := by rw [k2]; exact ix_nI (by omega)
    rw [e]
    show rbl 701 false ((600 + k) :: 700 :: Y) nx = _
    rw [rb_n (by omega), gk_f (by omega), tb_6 (by omega), e700]
    rfl
  · have zb : ¬ bs = -1 := by rw [b2]; exact nI_ne1 (by omega)
    have eb : ix bs = b := by rw [b2]; exact ix_nI (by omega)
    rw [if_neg zb, if_neg zb, eb]
    by_cases zd : dg = -1
    · rw [if_pos zd, if_pos zd]
      show rbl 701 false ((400 + b) :: 700 :: Y) nx = _
      rw [rb_n (by omega), gk_f (by omega), tb_4 (by omega), e700]
      rfl
    · obtain ⟨k, k1, k2⟩ := hd.resolve_left zd
      have e : ix dg = k := by rw [k2]; exact ix_nI (by omega)
      rw [if_neg zd, if_neg zd, e]
      show rbl 701 false ((400 + b) :: 704 :: (600 + k) :: 700 :: Y) nx = _
      rw [rb_n (by omega), gk_f (by omega), tb_4 (by omega), rb_n (by omega), gk_f (by omega), rb_n (by omega), gk_f (by omega), tb_6 (by omega), e700]
      rfl
/-- an entry -/
theorem rb_ent {x : Ent} {Y : List Nat} {AL : List Act} {ow kd : Nat → Int32} {dn : Int32} {i : Nat} (F : FX AL ow kd dn i x) (hY : Y.headD nx ≠ 208) : rbl 0 true (rne x ++ Y) nx = be x ++ rbl 0 true Y nx := by
  obtain ⟨f1, -, -, f4, f5, f6, f7, f8, f9, -⟩ := F
  have e700 : ∀ pv, rbl pv false (700 :: Y) nx = 59 :: 10 :: rbl 0 true Y nx := fun pv => by
    rw [rb_e (Or.inl rfl), gk_0 (Or.inl rfl)]; rfl
  unfold rne be
  by_cases c0 : en_op x = 0
  · rw [if_pos c0, if_pos c0]
    obtain ⟨l, l1, l2, -⟩ := f6 (Or.inl c0)
    obtain ⟨c, k1, k2, -⟩ := f4 (Or.inl c0)
    rw [l2, k2, ix_nI (by omega), ix_nI (by omega)]
    show rbl 0 true ((400 + l) :: 701 :: (300 + c) :: 700 :: Y) nx = _
    rw [rb_n (by omega), gk_t, tb_4 (by omega), rb_n (by omega), gk_f (by omega), rb_n (by omega), gk_f (by omega), tb_3 (by omega), e700]
    rfl
  rw [if_neg c0, if_neg c0]
  by_cases c1 : en_op x = 1
  · rw [if_pos c1, if_pos c1]
    obtain ⟨c, k1, k2, -⟩ := f4 (Or.inr (Or.inl c1))
    obtain ⟨b1, b2, b3⟩ := f8 (Or.inl c1)
    have ex := rb_x (Y := Y) (nx := nx) (b1.imp id (fun ⟨b, y1, y2, _⟩ => ⟨b, y1, y2⟩)) b2 b3
    rw [k2, ix_nI (by omega), List.append_assoc, List.append_assoc, List.append_assoc]
    show rbl 0 true ((300 + c) :: 701 :: (rnx (en_bs x) (en_dg x) ++ (700 :: Y))) nx = _
    rw [rb_n (by omega), gk_t, tb_3 (by omega), rb_n (by omega), gk_f (by omega), ex, List.append_assoc]
    rfl
  rw [if_neg c1, if_neg c1]
  by_cases c2 : en_op x = 2
  · rw [if_pos c2, if_pos c2]
    obtain ⟨l, l1, l2, -⟩ := f6 (Or.inr (Or.inl c2))
    obtain ⟨c, k1, k2, -⟩ := f4 (Or.inr (Or.inr c2))
    obtain ⟨b, b1, b2, -⟩ := f7 c2
    rw [l2, k2, b2, ix_nI (by omega), ix_nI (by omega), ix_nI (by omega)]
    show rbl 0 true ((400 + l) :: 701 :: (400 + b) :: 703 :: (300 + c) :: 700 :: Y) nx = _
    rw [rb_n (by omega), gk_t, tb_4 (by omega), rb_n (by omega), gk_f (by omega), rb_n (by omega), gk_f (by omega), tb_4 (by omega), rb_n (by omega), gk_0 (by omega), rb_n (by omega), gk_0 (by omega), tb_3 (by omega), e700]
    rfl
  rw [if_neg c2, if_neg c2]
  by_cases c3 : en_op x = 3
  · rw [if_pos c3, if_pos c3]
    obtain ⟨m, m1, m2⟩ := f5 (Or.inl c3)
    rw [m2, ix_nI (by omega)]
    show rbl 0 true (204 :: (500 + m) :: 700 :: Y) nx = _
    rw [rb_n (by omega), gk_t, rb_n (by omega), gk_f (by omega), tb_5 (by omega), e700, show tkb 204 = wbt 6 from by decide, List.append_assoc]
    rfl
  rw [if_neg c3, if_neg c3]
  by_cases c4 : en_op x = 4
  · rw [if_pos c4, if_pos c4]
    obtain ⟨m, m1, m2⟩ := f5 (Or.inr c4)
    rw [m2, ix_nI (by omega)]
    show rbl 0 true (205 :: (500 + m) :: 700 :: Y) nx = _
    rw [rb_n (by omega), gk_t, rb_n (by omega), gk_f (by omega), tb_5 (by omega), e700, show tkb 205 = wbt 7 from by decide, List.append_assoc]
    rfl
  rw [if_neg c4, if_neg c4]
  by_cases c5 : en_op x = 5
  · rw [if_pos c5, if_pos c5]
    show rbl 0 true (206 :: 700 :: Y) nx = _
    rw [rb_n (by omega), gk_t, e700, show tkb 206 = wbt 8 from by decide, List.append_assoc]
    rfl
  rw [if_neg c5, if_neg c5]
  by_cases c6 : en_op x = 6
  · rw [if_pos c6, if_pos c6]
    obtain ⟨l, l1, l2, -⟩ := f6 (Or.inr (Or.inr (Or.inl c6)))
    obtain ⟨b1, b2, b3⟩ := f8 (Or.inr c6)
    have ex := rb_x (Y := Y) (nx := nx) (b1.imp id (fun ⟨b, y1, y2, _⟩ => ⟨b, y1, y2⟩)) b2 b3
    rw [l2, ix_nI (by omega), List.append_assoc, List.append_assoc, List.append_assoc]
    show rbl 0 true ((400 + l) :: 701 :: (rnx (en_bs x) (en_dg x) ++ (700 :: Y))) nx = _
    rw [rb_n (by omega), gk_t, tb_4 (by omega), rb_n (by omega), gk_f (by omega), ex, List.append_assoc]
    rfl
  rw [if_neg c6, if_neg c6]
  by_cases c7 : en_op x = 7
  · rw [if_pos c7, if_pos c7]
    obtain ⟨l, l1, l2, -⟩ := f6 (Or.inr (Or.inr (Or.inr c7)))
    obtain ⟨k, k1, k2⟩ := f9 c7
    rw [l2, k2, ix_nI (by omega), ix_nI (by omega)]
    show rbl 0 true (207 :: (400 + l) :: 702 :: (600 + k) :: 705 :: Y) nx = _
    rw [rb_n (by omega), gk_t, rb_n (by omega), gk_f (by omega), tb_4 (by omega), rb_n (by omega), gk_f (by omega), rb_n (by omega), gk_f (by omega), tb_6 (by omega), rb_e (Or.inr (Or.inl rfl)), gk_f (by omega), show tkb 207 = wbt 12 from by decide, List.append_assoc]
    rfl
  rw [if_neg c7, if_neg c7]
  by_cases c8 : en_op x = 8
  · rw [if_pos c8, if_pos c8]
    show rbl 0 true (706 :: 208 :: 705 :: Y) nx = _
    rw [rb_c rfl, gk_t, rb_n (by omega), gk_f (by omega), rb_e (Or.inr (Or.inl rfl)), gk_f (by omega), show tkb 208 = wbt 9 from by decide, show wbt 14 = [125] ++ ([32] ++ (wbt 9 ++ [32, 123])) from by decide, List.append_assoc, List.append_assoc, List.append_assoc, List.append_assoc]
    rfl
  rw [if_neg c8, if_neg c8]
  show rbl 0 true (706 :: Y) nx = _
  rw [rb_e (Or.inr (Or.inr ⟨rfl, hY⟩)), gk_t]
  rfl
end
/-- no entry begins with else -/
theorem rne_h {x : Ent} : ∃ t ts, rne x = t :: ts ∧ t ≠ 208 := by
  unfold rne
  by_cases c0 : en_op x = 0
  · rw [if_pos c0]; exact ⟨_, _, rfl, by omega⟩
  rw [if_neg c0]
  by_cases c1 : en_op x = 1
  · rw [if_pos c1]; exact ⟨_, _, rfl, by omega⟩
  rw [if_neg c1]
  by_cases c2 : en_op x = 2
  · rw [if_pos c2]; exact ⟨_, _, rfl, by omega⟩
  rw [if_neg c2]
  by_cases c3 : en_op x = 3
  · rw [if_pos c3]; exact ⟨_, _, rfl, by omega⟩
  rw [if_neg c3]
  by_cases c4 : en_op x = 4
  · rw [if_pos c4]; exact ⟨_, _, rfl, by omega⟩
  rw [if_neg c4]
  by_cases c5 : en_op x = 5
  · rw [if_pos c5]; exact ⟨_, _, rfl, by omega⟩
  rw [if_neg c5]
  by_cases c6 : en_op x = 6
  · rw [if_pos c6]; exact ⟨_, _, rfl, by omega⟩
  rw [if_neg c6]
  by_cases c7 : en_op x = 7
  · rw [if_pos c7]; exact ⟨_, _, rfl, by omega⟩
  rw [if_neg c7]
  by_cases c8 : en_op x = 8
  · rw [if_pos c8]; exact ⟨_, _, rfl, by omega⟩
  rw [if_neg c8]; exact ⟨_, _, rfl, by omega⟩
/-- the tokens from entry e on -/
def RNe (SL : List Nat) (E : List Ent) (e n : Nat) : List Nat := (List.range n).flatMap (fun i => rnf SL E (e + i))
def bde (SL : List Nat) (E : List Ent) (e n : Nat) : List Nat := (List.range n).flatMap (fun i => bfE SL E (e + i))
theorem rne_s {SL : List Nat} {E : List Ent} {e n : Nat} : RNe SL E e (n + 1) = rnf SL E e ++ RNe SL E (e + 1) n := by
  unfold RNe
  rw [List.range_succ_eq_map, List.flatMap_cons, List.flatMap_map]
  congr 1
  refine fm_c _ (fun i _ => ?_)
  show rnf SL E (e + (i + 1)) = rnf SL E (e + 1 + i)
  rw [show e + (i + 1) = e + 1 + i by omega]
theorem bde_s {SL : List Nat} {E : List Ent} {e n : Nat} : bde SL E e (n + 1) = bfE SL E e ++ bde SL E (e + 1) n := by
  unfold bde
  rw [List.range_succ_eq_map, List.flatMap_cons, List.flatMap_map]
  congr 1
  refine fm_c _ (fun i _ => ?_)
  show bfE SL E (e + (i + 1)) = bfE SL E (e + 1 + i)
  rw [show e + (i + 1) = e + 1 + i by omega]
theorem rb_all {d : PD} (P : PDk d) : ∀ n e, e + n = (pE d).length → rbl 0 true (RNe (pS d) (pE d) e n) 0 = bde (pS d) (pE d) e n ∧ (RNe (pS d) (pE d) e n).headD 0 ≠ 208 := by
  intro n
  induction n with
  | zero => intro e _; exact ⟨rfl, by show (0 : Nat) ≠ 208; omega⟩
  | succ n ih =>
    intro e he
    obtain ⟨i1, i2⟩ := ih (e + 1) (by omega)
    have fx := (P.1.1.1 e (by omega)).2
    have en := rb_ent (nx := 0) fx i2
    rw [rne_s, bde_s]
    unfold rnf bfE
    rw [if_pos (show e < (pE d).length by omega)]
    obtain ⟨t, ts, r1, r2⟩ := rne_h (x := (pE d).getD e dE)
    by_cases c : e ∈ pS d
    · rw [if_pos c, if_pos c]
      refine ⟨?_, by show (203 : Nat) ≠ 208; omega⟩
      rw [List.append_assoc]
      show rbl 0 true (203 :: 705 :: (rne ((pE d).getD e dE) ++ RNe (pS d) (pE d) (e + 1) n)) 0 = _
      rw [rb_n (by omega), gk_t, rb_e (Or.inr (Or.inl rfl)), gk_f (by omega), en, i1, show tkb 203 = wbt 5 from by decide]
      unfold thr9
      rw [List.append_assoc, List.append_assoc]
      rfl
    · rw [if_neg c, if_neg c, List.nil_append, List.nil_append, en, i1]
      refine ⟨rfl, ?_⟩
      rw [r1]
      exact r2
theorem rb_rn {d : PD} (P : PDk d) : rbl 0 true (RN (pS d) (pE d)) 0 = bdy (pS d) (pE d) (pE d).length := by
  have T := P.1.2.2.2.2.2.2
  have nE : ¬ (pE d).length ∈ pS d := fun hm => by
    obtain ⟨i, i1, i2⟩ := List.mem_iff_getElem.mp hm
    obtain ⟨z, z1, z2, -⟩ := T.2.2 i i1
    have gi : (pS d).getD i 0 = (pE d).length := by rw [List.getD_eq_getElem?_getD, List.getElem?_eq_getElem i1, ← i2]; rfl
    omega
  have e1 : RN (pS d) (pE d) = RNe (pS d) (pE d) 0 (pE d).length := by
    unfold RN RNe
    rw [List.range_succ, List.flatMap_append, List.flatMap_cons, List.flatMap_nil, List.append_nil]
    have : rnf (pS d) (pE d) (pE d).length = [] := by
      unfold rnf
      rw [if_neg nE, if_neg (Nat.lt_irrefl _)]; rfl
    rw [this, List.append_nil]
    refine fm_c _ (fun i _ => ?_)
    rw [Nat.zero_add]
  rw [e1, (rb_all P (pE d).length 0 (by omega)).1]
  unfold bde bdy
  refine fm_c _ (fun i _ => ?_)
  rw [Nat.zero_add]
