/-! ===== the class's reader: its state, its steps ===== -/
def sA (h : AH) (A : Nat → Nat → Int32) : AH := (hp_n h, hp_s h, hp_k h, hp_l h, A, hp_j h, hp_r h)
def uR (A : Nat → Nat → Int32) (r : Nat) (f : Nat → Int32) : Nat → Nat → Int32 := fun r' k => if r' = r then f k else A r' k
theorem sA_i {h : AH} {A : Nat → Nat → Int32} : hp_i (sA h A) = A := rfl
theorem sA_st {h : AH} {A : Nat → Nat → Int32} {r k : Nat} {v : Int32} : st_i (sA h A) r k v = sA h (up_2 A r k v) := rfl
theorem sA_sI {h : AH} {A : Nat → Nat → Int32} {r : Nat} {f : Nat → Int32} : sI (sA h A) r f = sA h (uR A r f) := rfl
theorem uR_s {A : Nat → Nat → Int32} {r : Nat} {f : Nat → Int32} : uR A r f r = f := by funext k; exact if_pos rfl
theorem uR_n {A : Nat → Nat → Int32} {r r' : Nat} {f : Nat → Int32} (h : r' ≠ r) : uR A r f r' = A r' := by funext k; exact if_neg h
theorem u2s {A : Nat → Nat → Int32} {r k : Nat} {v : Int32} : up_2 A r k v r k = v := if_pos ⟨rfl, rfl⟩
theorem u2 {A : Nat → Nat → Int32} {r k r' k' : Nat} {v : Int32} (h : r' ≠ r ∨ k' ≠ k) : up_2 A r k v r' k' = A r' k' := if_neg (fun e => h.elim (fun x => x e.1) (fun x => x e.2))
theorem u2r {A : Nat → Nat → Int32} {r k r' : Nat} {v : Int32} (h : r' ≠ r) : up_2 A r k v r' = A r' := by funext k'; exact u2 (Or.inl h)
/-- op, target, base, digit, object, jump (class), jump (reference), number, thread -/
abbrev Ent : Type := Nat × Int32 × Int32 × Int32 × Int32 × Option Nat × Option Nat × Int32 × Nat
def en_op (x : Ent) : Nat := x.1
def en_tl (x : Ent) : Int32 := x.2.1
def en_bs (x : Ent) : Int32 := x.2.2.1
def en_dg (x : Ent) : Int32 := x.2.2.2.1
def en_ob (x : Ent) : Int32 := x.2.2.2.2.1
def en_jp (x : Ent) : Option Nat := x.2.2.2.2.2.1
def en_jq (x : Ent) : Option Nat := x.2.2.2.2.2.2.1
def en_nu (x : Ent) : Int32 := x.2.2.2.2.2.2.2.1
def en_te (x : Ent) : Nat := x.2.2.2.2.2.2.2.2
def dE : Ent := (0, 0, 0, 0, 0, none, none, 0, 0)
/-- thread, op, object, local, entry -/
abbrev Act : Type := Nat × Nat × Int32 × Int32 × Nat
def dA : Act := (0, 0, 0, 0, 0)
/-- the reader stands: code at B -/
def CQ (h : AH) (B : Nat) : Prop :=
  (ok_o h 68 6 ∧ hp_r h 68 2 = 69 ∧ hp_r h 68 3 = 71 ∧ hp_r h 68 4 = B + 11 ∧ hp_r h 68 5 = B) ∧ (ok_o h 71 100 ∧ hp_l h 71 = 8) ∧ (ok_o h (B + 11) 5 ∧ hp_r h (B + 11) 1 = B + 12) ∧ (ok_o h (B + 12) 100 ∧ hp_l h (B + 12) = 8) ∧
  (ok_o h B 0 ∧ ∀ i, i < 10 → hp_r h B i = B + 1 + i ∧ ok_o h (B + 1 + i) 100 ∧ hp_l h (B + 1 + i) = m_len i) ∧ 126 ≤ B ∧
  ok_o h 69 7 ∧ hp_r h 69 3 = 65 ∧ (hp_r h 69 6 = 70 ∧ ok_o h 70 100 ∧ hp_l h 70 = 1001) ∧ (ok_o h 65 100 ∧ hp_l h 65 = 1000)
def EC (A : Nat → Nat → Int32) (B e : Nat) (x : Ent) : Prop := A (B + 1) e = nI (en_op x) ∧ A (B + 2) e = en_tl x ∧ A (B + 3) e = en_bs x ∧ A (B + 4) e = en_dg x ∧ A (B + 5) e = en_ob x ∧ (∀ y, en_jp x = some y → A (B + 6) e = nI y) ∧ A (B + 7) e = en_nu x

/-- the rest of the heap is as before -/
def FC (Z : Nat → Nat → Int32) (B : Nat) (A : Nat → Nat → Int32) : Prop := ∀ r k, r < 68 ∨ (71 < r ∧ r < B) ∨ (r = 68 ∧ k ≤ 1) ∨ r = B + 11 → A r k = Z r k
def FC0 (Z : Nat → Nat → Int32) (B : Nat) (A : Nat → Nat → Int32) : Prop := ∀ r k, r < 68 ∨ (71 < r ∧ r < B) → A r k = Z r k
def CT_ (Z : Nat → Nat → Int32) (B : Nat) (tp : Nat → Nat) (n cnt : Nat) (A : Nat → Nat → Int32) (j : Nat) : Prop := SV tp n cnt (A 69) j ∧ TKs tp n cnt (A 70) ∧ n ≤ 1000 ∧ (∀ k, k < n → tp k < 256) ∧ (∀ k, k < n → A 65 k = nI (tp k)) ∧ j < 2 ^ 20 ∧ FC Z B A
def CS (Z : Nat → Nat → Int32) (tp : Nat → Nat) (n cnt B : Nat) (A : Nat → Nat → Int32) (j th hd ne st : Nat) (E : List Ent) (AL : List Act) (SL : List Nat) (ow : Nat → Int32) (lb mb mk dn : Int32) (kd : Nat → Int32) : Prop :=
  CT_ Z B tp n cnt A j ∧ (A 68 6 = nI th ∧ A 68 7 = nI hd ∧ A 68 8 = nI ne) ∧ (∀ l, l < 5 → A 71 l = ow l) ∧
  (A B 10 = nI E.length ∧ A B 11 = nI SL.length ∧ A B 12 = nI AL.length ∧ A B 13 = nI st ∧ A B 14 = lb ∧ A B 15 = mb ∧ A B 16 = mk ∧ A B 17 = dn) ∧
  (∀ e, e < E.length → EC A B e (E.getD e dE)) ∧ (∀ t, t < SL.length → A (B + 8) t = nI (SL.getD t 0)) ∧ (∀ m, m < AL.length → A (B + 9) m = nI (AL.getD m dA).2.2.2.2 ∧ A (B + 10) m = nI (AL.getD m dA).1) ∧ (∀ c, c < 8 → A (B + 12) c = kd c) ∧
  (E.length ≤ 64 ∧ SL.length ≤ 4 ∧ AL.length ≤ 8 ∧ st ≤ 20 ∧ th < 4 ∧ hd < 4 ∧ ne ≤ 4)
section
variable {Z : Nat → Nat → Int32} {tp : Nat → Nat} {n cnt B : Nat} {h : AH} {A A' : Nat → Nat → Int32} {j th hd ne st : Nat} {E : List Ent} {AL : List Act} {SL : List Nat} {ow : Nat → Int32} {lb mb mk dn : Int32} {kd : Nat → Int32}
/-- nothing of the reader's own has changed -/
theorem cs_cg (S : CS Z tp n cnt B A j th hd ne st E AL SL ow lb mb mk dn kd) (hB : 126 ≤ B) (h1 : ∀ r k, (r ≠ 68 ∨ k = 6 ∨ k = 7 ∨ k = 8 ∨ k ≤ 1) → A' r k = A r k) : CS Z tp n cnt B A' j th hd ne st E AL SL ow lb mb mk dn kd := by
  obtain ⟨⟨s1, s2, s3, s4, s5, s6⟩, ⟨a1, a2, a3⟩, b, ⟨c1, c2, c3, c4, c5, c6, c7, c8⟩, d, e, f, g, i⟩ := S
  have e69 : A' 69 = A 69 := by funext k; exact h1 69 k (by omega)
  have e70 : A' 70 = A 70 := by funext k; exact h1 70 k (by omega)
  refine ⟨⟨by rw [e69]; exact s1, by rw [e70]; exact s2, s3, s4, fun k hk => by rw [h1 65 k (by omega)]; exact s5 k hk, s6.1, fun r k hr => by rw [h1 r k (by omega)]; exact s6.2 r k hr⟩, ⟨by rw [h1 68 6 (by omega)]; exact a1, by rw [h1 68 7 (by omega)]; exact a2, by rw [h1 68 8 (by omega)]; exact a3⟩, fun l hl => by rw [h1 71 l (by omega)]; exact b l hl, ?_, fun x hx => ?_, fun t ht => by rw [h1 _ _ (by omega)]; exact e t ht, fun m hm => by rw [h1 _ _ (by omega), h1 _ _ (by omega)]; exact f m hm, fun c hc => by rw [h1 _ _ (by omega)]; exact g c hc, i⟩
  · rw [h1 _ _ (by omega), h1 _ _ (by omega), h1 _ _ (by omega), h1 _ _ (by omega), h1 _ _ (by omega), h1 _ _ (by omega), h1 _ _ (by omega), h1 _ _ (by omega)]
    exact ⟨c1, c2, c3, c4, c5, c6, c7, c8⟩
  · unfold EC
    rw [h1 _ _ (by omega), h1 _ _ (by omega), h1 _ _ (by omega), h1 _ _ (by omega), h1 _ _ (by omega), h1 _ _ (by omega), h1 _ _ (by omega)]
    exact d x hx
theorem q_i {r c k : Nat} (ok : ok_o h r c) : g_i (sA h A) r c k = some (A r k) := if_pos ok
theorem q_p {r c k : Nat} {v : Int32} (ok : ok_o h r c) : p_i (sA h A) r c k v = some (sA h (up_2 A r k v)) := if_pos ok
theorem q_v {r c : Nat} (ok : ok_o h r c) : ok_v (sA h A) r c = some () := if_pos ok
theorem q_r {r c k x : Nat} (ok : ok_o h r c) (hx : hp_r h r k = x) : g_r (sA h A) r c k = some x := by
  have e : g_r (sA h A) r c k = some (hp_r h r k) := if_pos ok
  rw [e, hx]
theorem q_l {r k : Nat} (ok : ok_o h r 100) (hk : k < hp_l h r) (hb : k < 2 ^ 31) : l_i (sA h A) r (nI k) = some (A r k) := l_iN (h := sA h A) ok hk hb
theorem q_s {r k : Nat} {v : Int32} (ok : ok_o h r 100) (hk : k < hp_l h r) (hb : k < 2 ^ 31) : s_i (sA h A) r (nI k) v = some (sA h (up_2 A r k v)) := s_iN (h := sA h A) ok hk hb
theorem q_68 (Q : CQ h B) : g_r (sA h A) 68 6 2 = some 69 := q_r Q.1.1 Q.1.2.1
theorem q_co (Q : CQ h B) : g_r (sA h A) 68 6 5 = some B := q_r Q.1.1 Q.1.2.2.2.2
theorem q_pr (Q : CQ h B) : g_r (sA h A) 68 6 4 = some (B + 11) := q_r Q.1.1 Q.1.2.2.2.1
theorem q_kr (Q : CQ h B) : g_r (sA h A) (B + 11) 5 1 = some (B + 12) := q_r Q.2.2.1.1 Q.2.2.1.2
theorem q_ow (Q : CQ h B) : g_r (sA h A) 68 6 3 = some 71 := q_r Q.1.1 Q.1.2.2.1
theorem q_cr (Q : CQ h B) {i : Nat} (hi : i < 10) : g_r (sA h A) B 0 i = some (B + 1 + i) := q_r Q.2.2.2.2.1.1 (Q.2.2.2.2.1.2 i hi).1
theorem cq_xc (Q : CQ h B) (S : CT_ Z B tp n cnt A j) : XC (sA h A) n tp := ⟨Q.2.2.2.2.2.2.1, Q.2.2.2.2.2.2.2.1, Q.2.2.2.2.2.2.2.2.1, Q.2.2.2.2.2.2.2.2.2, S.2.2.1, S.2.2.2.1, S.2.2.2.2.1⟩
/-- advance -/
theorem c_adv (Q : CQ h B) (S : CS Z tp n cnt B A j th hd ne st E AL SL ow lb mb mk dn kd) (hj : j + 1 < 2 ^ 20) : ∃ A', f_X7_advance 69 (sA h A) = some (sA h A') ∧ CS Z tp n cnt B A' (j + 1) th hd ne st E AL SL ow lb mb mk dn kd ∧ ∀ r k, r ≠ 69 → A' r k = A r k := by
  obtain ⟨⟨s1, s2, s3, s4, s5, s6⟩, rest⟩ := S
  have X := cq_xc (j := j) Q ⟨s1, s2, s3, s4, s5, s6⟩
  have hc := s2.1
  have eta : sI (sI (sA h A) 70 (A 70)) 69 (A 69) = sA h A := by
    have e1 : sI (sA h A) 70 (A 70) = sA h A := sI_eta (h := sA h A) (r := 70)
    rw [e1]
    exact sI_eta (h := sA h A) (r := 69)
  have h8 : A 69 8 + 1 = nI (j + 1) ∨ (A 69 8 = nI cnt ∧ cnt < j + 1) := by
    obtain ⟨-, -, -, -, -, e8⟩ := s1
    rw [e8]
    by_cases c : j < cnt
    · left; rw [Nat.min_eq_left (by omega), da]
    · right; rw [Nat.min_eq_right (by omega)]; exact ⟨rfl, by omega⟩
  obtain ⟨f', x1, x2, x3⟩ := z_adv (f := A 69) X s2 s1.2.2.2.1 s1.2.2.2.2.1 h8 (by omega)
  rw [eta] at x1
  have e2 : sI (sI (sA h A) 70 (A 70)) 69 f' = sA h (uR A 69 f') := by
    have e1 : sI (sA h A) 70 (A 70) = sA h A := sI_eta (h := sA h A) (r := 70)
    rw [e1]
    rfl
  rw [e2] at x1
  have ne69 : ∀ r k, r ≠ 69 → uR A 69 f' r k = A r k := fun r k hr => if_neg hr
  have hB := Q.2.2.2.2.2.1
  refine ⟨uR A 69 f', x1, ⟨⟨by rw [uR_s]; exact x2, by rw [uR_n (by decide)]; exact s2, s3, s4, fun k hk => by rw [ne69 _ _ (by decide)]; exact s5 k hk, hj, fun r k hr => by rw [ne69 _ _ (by omega)]; exact s6.2 r k hr⟩, ?_⟩, ne69⟩
  obtain ⟨⟨a1, a2, a3⟩, b, ⟨c1, c2, c3, c4, c5, c6, c7, c8⟩, d, e, f, g, i⟩ := rest
  refine ⟨⟨by rw [ne69 _ _ (by decide)]; exact a1, by rw [ne69 _ _ (by decide)]; exact a2, by rw [ne69 _ _ (by decide)]; exact a3⟩, fun l hl => by rw [ne69 _ _ (by decide)]; exact b l hl, ?_, fun x hx => ?_, fun t ht => by rw [ne69 _ _ (by omega)]; exact e t ht, fun m hm => by rw [ne69 _ _ (by omega), ne69 _ _ (by omega)]; exact f m hm, fun c hc => by rw [ne69 _ _ (by omega)]; exact g c hc, i⟩
  · rw [ne69 _ _ (by omega), ne69 _ _ (by omega), ne69 _ _ (by omega), ne69 _ _ (by omega), ne69 _ _ (by omega), ne69 _ _ (by omega), ne69 _ _ (by omega), ne69 _ _ (by omega)]
    exact ⟨c1, c2, c3, c4, c5, c6, c7, c8⟩
  · unfold EC
    rw [ne69 _ _ (by omega), ne69 _ _ (by omega), ne69 _ _ (by omega), ne69 _ _ (by omega), ne69 _ _ (by omega), ne69 _ _ (by omega), ne69 _ _ (by omega)]
    exact d x hx
/-- refuse -/
def CF (Z : Nat → Nat → Int32) (B : Nat) (A : Nat → Nat → Int32) (k p : Nat) : Prop := (A 68 0 = nI k ∧ A 68 1 = nI p) ∧ FC0 Z B A
theorem c_refuse {k p : Nat} (Q : CQ h B) (hz : FC Z B A) : ∃ A', f_X6_refuse 68 (nI k) (nI p) (sA h A) = some (0, sA h A') ∧ CF Z B A' k p := by
  refine ⟨up_2 (up_2 A 68 0 (nI k)) 68 1 (nI p), ?_, ⟨?_, u2s⟩, fun r k hr => by rw [u2 (by omega), u2 (by omega)]; exact hz r k (by omega)⟩
  · unfold f_X6_refuse b_X6_refuse_0
    rw [q_p Q.1.1, Option.bind_some, q_p Q.1.1, Option.bind_some]
    exact ok_z_0
  · show up_2 (up_2 A 68 0 (nI k)) 68 1 (nI p) 68 0 = _
    rw [u2 (by omega), u2s]
theorem c_sv (S : CS Z tp n cnt B A j th hd ne st E AL SL ow lb mb mk dn kd) : A 69 0 = nI (ckd (tk tp n j).1) ∧ A 69 1 + 1 = nI (cw1 (tk tp n j).1) ∧ A 69 2 = nI (tk tp n j).2.1 := ⟨S.1.1.1, S.1.1.2.1, S.1.1.2.2.1⟩
theorem c_k (Q : CQ h B) : g_i (sA h A) 69 7 0 = some (A 69 0) := q_i Q.2.2.2.2.2.2.1
theorem c_w (Q : CQ h B) : g_i (sA h A) 69 7 1 = some (A 69 1) := q_i Q.2.2.2.2.2.2.1
theorem c_pl (Q : CQ h B) : g_i (sA h A) 69 7 2 = some (A 69 2) := q_i Q.2.2.2.2.2.2.1
/-- refuse the token -/
theorem c_rt (Q : CQ h B) (S : CS Z tp n cnt B A j th hd ne st E AL SL ow lb mb mk dn kd) : ∃ A', f_X6_refuseToken 68 (sA h A) = some (0, sA h A') ∧ CF Z B A' 1 (tk tp n j).2.1 := by
  obtain ⟨A', x1, x2⟩ := c_refuse (A := A) (k := 1) (p := (tk tp n j).2.1) Q S.1.2.2.2.2.2.2
  refine ⟨A', ?_, x2⟩
  unfold f_X6_refuseToken b_X6_refuseToken_0
  rw [q_68 Q, Option.bind_some, c_pl Q, Option.bind_some, (c_sv S).2.2, q_v Q.1.1, Option.bind_some, show f_X6_refuse 68 (1 : Int32) (nI (tk tp n j).2.1) (sA h A) = _ from x1, Option.bind_some]
  exact ok_z_0
theorem c_pass {k : Nat} (Q : CQ h B) (S : CS Z tp n cnt B A j th hd ne st E AL SL ow lb mb mk dn kd) (hk : k < 256) (hj : j + 1 < 2 ^ 20) :
    (ckd (tk tp n j).1 = k ∧ ∃ A', f_X6_pass 68 (nI k) (sA h A) = some (1, sA h A') ∧ CS Z tp n cnt B A' (j + 1) th hd ne st E AL SL ow lb mb mk dn kd ∧ ∀ r k, r ≠ 69 → A' r k = A r k) ∨ (¬ ckd (tk tp n j).1 = k ∧ ∃ A', f_X6_pass 68 (nI k) (sA h A) = some (0, sA h A') ∧ CF Z B A' 1 (tk tp n j).2.1) := by
  have k1 := ckd_256 (tk tp n j).1
  have e : A 69 0 = nI k ↔ ckd (tk tp n j).1 = k := by rw [(c_sv S).1]; exact nI_eq (by omega) (by omega)
  unfold f_X6_pass b_X6_pass_0
  rw [q_68 Q, Option.bind_some, c_k Q, Option.bind_some]
  by_cases c : ckd (tk tp n j).1 = k
  · left
    refine ⟨c, ?_⟩
    rw [if_pos (e.mpr c)]
    obtain ⟨A', x1, x2, x3⟩ := c_adv Q S hj
    unfold b_X6_pass_24
    rw [q_68 Q, Option.bind_some, q_v Q.2.2.2.2.2.2.1, Option.bind_some, x1, Option.bind_some]
    exact ⟨A', ok_z_1, x2, x3⟩
  · right
    refine ⟨c, ?_⟩
    rw [if_neg (fun x => c (e.mp x))]
    obtain ⟨A', x1, x2⟩ := c_refuse (A := A) (k := 1) (p := (tk tp n j).2.1) Q S.1.2.2.2.2.2.2
    unfold b_X6_pass_11
    rw [q_68 Q, Option.bind_some, c_pl Q, Option.bind_some, (c_sv S).2.2, q_v Q.1.1, Option.bind_some, show f_X6_refuse 68 (1 : Int32) (nI (tk tp n j).2.1) (sA h A) = _ from x1, Option.bind_some]
    exact ⟨A', ok_z_0, x2⟩
theorem c_cnt (Q : CQ h B) (S : CS Z tp n cnt B A j th hd ne st E AL SL ow lb mb mk dn kd) :
    (st < 20 ∧ ∃ A', f_X6_countStatement 68 (sA h A) = some (1, sA h A') ∧ CS Z tp n cnt B A' j th hd ne (st + 1) E AL SL ow lb mb mk dn kd) ∨ (st = 20 ∧ ∃ A', f_X6_countStatement 68 (sA h A) = some (0, sA h A') ∧ CF Z B A' 4 (tk tp n j).2.1) := by
  have hB := Q.2.2.2.2.2.1
  have S' := S
  obtain ⟨s0, a, b, ⟨c1, c2, c3, c4, c5, c6, c7, c8⟩, d, e, f, g, i1, i2, i3, i4, i5⟩ := S
  unfold f_X6_countStatement b_X6_countStatement_0
  rw [q_co Q, Option.bind_some, q_i Q.2.2.2.2.1.1, Option.bind_some, c4]
  by_cases c : st < 20
  · left
    refine ⟨c, up_2 A B 13 (nI (st + 1)), ?_, ?_⟩
    · rw [if_pos (show nI st < (20 : Int32) from nI_lt (b := 20) c (by omega))]
      unfold b_X6_countStatement_25
      rw [q_co Q, Option.bind_some, q_i Q.2.2.2.2.1.1, Option.bind_some, c4, da, q_p Q.2.2.2.2.1.1, Option.bind_some]
      exact ok_z_1
    · have k : ∀ r q, r ≠ B ∨ q ≠ 13 → up_2 A B 13 (nI (st + 1)) r q = A r q := fun r q hr => u2 hr
      refine ⟨⟨by rw [u2r (by omega)]; exact s0.1, by rw [u2r (by omega)]; exact s0.2.1, s0.2.2.1, s0.2.2.2.1, fun q hq => by rw [k _ _ (by omega)]; exact s0.2.2.2.2.1 q hq, s0.2.2.2.2.2.1, fun r q hr => by rw [k _ _ (by omega)]; exact s0.2.2.2.2.2.2 r q hr⟩, by rw [k _ _ (by omega), k _ _ (by omega), k _ _ (by omega)]; exact a, fun l hl => by rw [k _ _ (by omega)]; exact b l hl, ?_, fun x hx => ?_, fun t ht => by rw [k _ _ (by omega)]; exact e t ht, fun m hm => by rw [k _ _ (by omega), k _ _ (by omega)]; exact f m hm, fun q hq => by rw [k _ _ (by omega)]; exact g q hq, i1, i2, i3, by omega, i5⟩
      · rw [k _ 10 (by omega), k _ 11 (by omega), k _ 12 (by omega), u2s, k _ 14 (by omega), k _ 15 (by omega), k _ 16 (by omega), k _ 17 (by omega)]
        exact ⟨c1, c2, c3, rfl, c5, c6, c7, c8⟩
      · unfold EC
        rw [k _ _ (by omega), k _ _ (by omega), k _ _ (by omega), k _ _ (by omega), k _ _ (by omega), k _ _ (by omega), k _ _ (by omega)]
        exact d x hx
  · right
    refine ⟨by omega, ?_⟩
    rw [if_neg (show ¬ nI st < (20 : Int32) from nI_nlt (b := 20) (by omega) (by omega))]
    obtain ⟨A', x1, x2⟩ := c_refuse (A := A) (k := 4) (p := (tk tp n j).2.1) Q S'.1.2.2.2.2.2.2
    unfold b_X6_countStatement_12
    rw [q_68 Q, Option.bind_some, c_pl Q, Option.bind_some, (c_sv S').2.2, q_v Q.1.1, Option.bind_some, show f_X6_refuse 68 (4 : Int32) (nI (tk tp n j).2.1) (sA h A) = _ from x1, Option.bind_some]
    exact ⟨A', ok_z_0, x2⟩
theorem c_may (Q : CQ h B) (S : CS Z tp n cnt B A j th hd ne st E AL SL ow lb mb mk dn kd) :
    (AL.length < 8 ∧ f_X6_mayAct 68 (sA h A) = some (1, sA h A)) ∨ (AL.length = 8 ∧ ∃ A', f_X6_mayAct 68 (sA h A) = some (0, sA h A') ∧ CF Z B A' 4 (tk tp n j).2.1) := by
  have h8 := S.2.2.2.2.2.2.2.2.2.2.1
  unfold f_X6_mayAct b_X6_mayAct_0
  rw [q_co Q, Option.bind_some, q_i Q.2.2.2.2.1.1, Option.bind_some, S.2.2.2.1.2.2.1]
  by_cases c : AL.length < 8
  · left
    rw [if_pos (show nI AL.length < (8 : Int32) from nI_lt (b := 8) c (by omega))]
    exact ⟨c, ok_z_1⟩
  · right
    refine ⟨by omega, ?_⟩
    rw [if_neg (show ¬ nI AL.length < (8 : Int32) from nI_nlt (b := 8) (by omega) (by omega))]
    obtain ⟨A', x1, x2⟩ := c_refuse (A := A) (k := 4) (p := (tk tp n j).2.1) Q S.1.2.2.2.2.2.2
    unfold b_X6_mayAct_12
    rw [q_68 Q, Option.bind_some, c_pl Q, Option.bind_some, (c_sv S).2.2, q_v Q.1.1, Option.bind_some, show f_X6_refuse 68 (4 : Int32) (nI (tk tp n j).2.1) (sA h A) = _ from x1, Option.bind_some, if_pos rfl]
    exact ⟨A', ok_z_0, x2⟩
/-- the number of a cell, local, monitor or digit -/
theorem c_wh {x : Nat} (S : CS Z tp n cnt B A j th hd ne st E AL SL ow lb mb mk dn kd) (hx : cw1 (tk tp n j).1 = x + 1) : A 69 1 = nI x := by
  have := (c_sv S).2.1
  rw [hx, ← nI_1] at this
  have h2 : A 69 1 + 1 - 1 = nI x + 1 - 1 := by rw [this]
  rw [Int32.add_sub_cancel, Int32.add_sub_cancel] at h2
  exact h2
theorem and7 {x : Nat} (hx : x < 8) : nI x &&& (7 : Int32) = nI x := by
  rw [pk_andN (m := 7) (by omega) 3 (by decide)]
  congr 1
  omega
theorem c_cell {c : Nat} (Q : CQ h B) (S : CS Z tp n cnt B A j th hd ne st E AL SL ow lb mb mk dn kd) (hc : c < 6) (hx : cw1 (tk tp n j).1 = c + 1) :
    (¬ kd c = -1 ∧ f_X6_checkCell 68 (sA h A) = some (1, sA h A)) ∨ (kd c = -1 ∧ ∃ A', f_X6_checkCell 68 (sA h A) = some (0, sA h A') ∧ CF Z B A' 2 (tk tp n j).2.1) := by
  unfold f_X6_checkCell b_X6_checkCell_0
  rw [q_pr Q, Option.bind_some, q_kr Q, Option.bind_some, q_68 Q, Option.bind_some, c_w Q, Option.bind_some, c_wh S hx, and7 (by omega), q_l Q.2.2.2.1.1 (by rw [Q.2.2.2.1.2]; omega) (by omega), Option.bind_some, S.2.2.2.2.2.2.2.1 c (by omega)]
  by_cases e : kd c = -1
  · right
    refine ⟨e, ?_⟩
    rw [if_pos e]
    obtain ⟨A', x1, x2⟩ := c_refuse (A := A) (k := 2) (p := (tk tp n j).2.1) Q S.1.2.2.2.2.2.2
    unfold b_X6_checkCell_22
    rw [q_68 Q, Option.bind_some, c_pl Q, Option.bind_some, (c_sv S).2.2, q_v Q.1.1, Option.bind_some, show f_X6_refuse 68 (2 : Int32) (nI (tk tp n j).2.1) (sA h A) = _ from x1, Option.bind_some, if_pos rfl]
    exact ⟨A', ok_z_0, x2⟩
  · left
    rw [if_neg e]
    exact ⟨e, ok_z_1⟩
end
