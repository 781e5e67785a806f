/-! ===== the codes of tokens, their places; the class's terms ===== -/
def codes (c : Nat) : Prop := c = 0 ∨ c = 100 ∨ (200 ≤ c ∧ c ≤ 208) ∨ (300 ≤ c ∧ c ≤ 305) ∨ (400 ≤ c ∧ c ≤ 404) ∨ (500 ≤ c ∧ c ≤ 501) ∨ (600 ≤ c ∧ c ≤ 609) ∨ (700 ≤ c ∧ c ≤ 706)
theorem wf_code {bs : List Nat} : ∀ f k d, k + f ≤ 9 → codes d → d ≠ 0 → codes (wfind bs f k d) ∧ wfind bs f k d ≠ 0 := by
  intro f
  induction f with
  | zero => intro k d _ h h0; exact ⟨h, h0⟩
  | succ f ih =>
    intro k d hk h h0
    refine ih (k + 1) _ (by omega) ?_ ?_
    · split
      · unfold codes; omega
      · exact h
    · split
      · omega
      · exact h0
theorem wb_code {bs : List Nat} : codes (wbase bs) ∧ wbase bs ≠ 0 := by
  unfold wbase codes
  repeat' split
  all_goals omega
theorem sc_code {b : Nat} {e : Bool} : codes (scode b e) ∧ scode b e ≠ 0 := by
  unfold scode codes
  repeat' split
  all_goals omega
theorem lx_code {tp : Nat → Nat} {n i : Nat} : codes (lx tp n i).1 ∧ ((lx tp n i).1 = 0 → n ≤ (lx tp n i).2.1) := by
  unfold lx
  split
  · exact ⟨Or.inl rfl, fun _ => by assumption⟩
  · split
    · have := wf_code (bs := wbs tp (lskip tp n 1001 i) (lword tp n 1001 (lskip tp n 1001 i))) 9 0 (wbase (wbs tp (lskip tp n 1001 i) (lword tp n 1001 (lskip tp n 1001 i)))) (by omega) wb_code.1 wb_code.2
      exact ⟨this.1, fun e => absurd e this.2⟩
    · have := sc_code (b := tp (lskip tp n 1001 i)) (e := (decide (lskip tp n 1001 i + 1 < n) && decide (tp (lskip tp n 1001 i + 1) = 61)))
      exact ⟨this.1, fun e => absurd e this.2⟩
theorem tk_code {tp : Nat → Nat} {n j : Nat} : codes (tk tp n j).1 := lx_code.1
theorem tk_pl {tp : Nat → Nat} {n j : Nat} (hn : n ≤ 1000) : (tk tp n j).2.1 ≤ n ∧ (tk tp n j).2.1 ≤ (tk tp n (j + 1)).2.1 ∧ ((tk tp n j).1 ≠ 0 → (tk tp n j).2.1 < (tk tp n (j + 1)).2.1) := by
  have p1 := lx_p (tp := tp) (n := n) (i := tpos tp n j) hn (tpos_le hn j)
  have p2 := lx_p (tp := tp) (n := n) (i := tpos tp n (j + 1)) hn (tpos_le hn (j + 1))
  have e : tpos tp n (j + 1) = (lx tp n (tpos tp n j)).2.2 := rfl
  unfold tk
  obtain ⟨a1, a2, a3, a4, a5, -, a7⟩ := p1
  obtain ⟨b1, b2, b3, b4, b5, -, b7⟩ := p2
  refine ⟨a2, by omega, fun h => ?_⟩
  have : (lx tp n (tpos tp n j)).2.1 < n := by
    by_cases c : (lx tp n (tpos tp n j)).2.1 < n
    · exact c
    · exact absurd (a7 (by omega)).1 h
  have := a5 this
  omega
theorem ckd_all {c : Nat} (h : codes c) : (ckd c = 0 ↔ c = 0) ∧ (ckd c = 2 ↔ c = 200) ∧ (ckd c = 3 ↔ c = 201) ∧ (ckd c = 4 ↔ c = 202) ∧ (ckd c = 5 ↔ c = 203) ∧ (ckd c = 6 ↔ c = 204) ∧ (ckd c = 7 ↔ c = 205) ∧ (ckd c = 8 ↔ c = 206) ∧ (ckd c = 9 ↔ c = 207) ∧ (ckd c = 10 ↔ c = 208) := by
  unfold codes at h
  unfold ckd
  repeat' split
  all_goals omega
theorem ckd_al2 {c : Nat} (h : codes c) : (ckd c = 11 ↔ c / 100 = 3) ∧ (ckd c = 12 ↔ c / 100 = 4) ∧ (ckd c = 13 ↔ c / 100 = 5) ∧ (ckd c = 14 ↔ c / 100 = 6) ∧ (ckd c = 15 ↔ c = 700) ∧ (ckd c = 16 ↔ c = 701) ∧ (ckd c = 17 ↔ c = 702) ∧ (ckd c = 18 ↔ c = 704) ∧ (ckd c = 19 ↔ c = 703) ∧ (ckd c = 20 ↔ c = 705) ∧ (ckd c = 21 ↔ c = 706) := by
  unfold codes at h
  unfold ckd
  repeat' split
  all_goals omega
theorem cw1_w {c : Nat} (h : 3 ≤ c / 100) (h' : c / 100 ≤ 6) : cw1 c = c % 100 + 1 := by
  unfold cw1
  rw [if_pos (by omega)]
theorem cd_3 {c : Nat} (h : codes c) : (c / 100 = 3 → c % 100 < 6) ∧ (c / 100 = 4 → c % 100 < 5) ∧ (c / 100 = 5 → c % 100 < 2) ∧ (c / 100 = 6 → c % 100 < 10) ∧ c < 1000 := by
  unfold codes at h
  omega
section
variable {Z : Nat → Nat → Int32} {tp : Nat → Nat} {n cnt B : Nat} {h : AH} {A A' : Nat → Nat → Int32} {j th hd ne st : Nat} {E : List Ent} {AL : List Act} {SL : List Nat} {ow : Nat → Int32} {lb mb mk dn : Int32} {kd : Nat → Int32}
theorem c_tok {k : Nat} (S : CS Z tp n cnt B A j th hd ne st E AL SL ow lb mb mk dn kd) (hk : k < 256) : A 69 0 = nI k ↔ ckd (tk tp n j).1 = k := by
  have k1 := ckd_256 (tk tp n j).1
  rw [(c_sv S).1]
  exact nI_eq (by omega) (by omega)
theorem cs_68 {v : Int32} {k : Nat} (Q : CQ h B) (S : CS Z tp n cnt B A j th hd ne st E AL SL ow lb mb mk dn kd) (hk : 9 ≤ k) : CS Z tp n cnt B (up_2 A 68 k v) j th hd ne st E AL SL ow lb mb mk dn kd :=
  cs_cg S Q.2.2.2.2.2.1 (fun r q hr => u2 (by omega))
theorem ct_5 (S : CS Z tp n cnt B A j th hd ne st E AL SL ow lb mb mk dn kd) : A 69 0 = (5 : Int32) ↔ (tk tp n j).1 = 203 := (c_tok (k := 5) S (by omega)).trans (ckd_all tk_code).2.2.2.2.1
theorem ct_6 (S : CS Z tp n cnt B A j th hd ne st E AL SL ow lb mb mk dn kd) : A 69 0 = (6 : Int32) ↔ (tk tp n j).1 = 204 := (c_tok (k := 6) S (by omega)).trans (ckd_all tk_code).2.2.2.2.2.1
theorem ct_7 (S : CS Z tp n cnt B A j th hd ne st E AL SL ow lb mb mk dn kd) : A 69 0 = (7 : Int32) ↔ (tk tp n j).1 = 205 := (c_tok (k := 7) S (by omega)).trans (ckd_all tk_code).2.2.2.2.2.2.1
theorem ct_8 (S : CS Z tp n cnt B A j th hd ne st E AL SL ow lb mb mk dn kd) : A 69 0 = (8 : Int32) ↔ (tk tp n j).1 = 206 := (c_tok (k := 8) S (by omega)).trans (ckd_all tk_code).2.2.2.2.2.2.2.1
theorem ct_9 (S : CS Z tp n cnt B A j th hd ne st E AL SL ow lb mb mk dn kd) : A 69 0 = (9 : Int32) ↔ (tk tp n j).1 = 207 := (c_tok (k := 9) S (by omega)).trans (ckd_all tk_code).2.2.2.2.2.2.2.2.1
theorem ct_10 (S : CS Z tp n cnt B A j th hd ne st E AL SL ow lb mb mk dn kd) : A 69 0 = (10 : Int32) ↔ (tk tp n j).1 = 208 := (c_tok (k := 10) S (by omega)).trans (ckd_all tk_code).2.2.2.2.2.2.2.2.2
theorem ct_2 (S : CS Z tp n cnt B A j th hd ne st E AL SL ow lb mb mk dn kd) : A 69 0 = (2 : Int32) ↔ (tk tp n j).1 = 200 := (c_tok (k := 2) S (by omega)).trans (ckd_all tk_code).2.1
theorem ct_3 (S : CS Z tp n cnt B A j th hd ne st E AL SL ow lb mb mk dn kd) : A 69 0 = (3 : Int32) ↔ (tk tp n j).1 = 201 := (c_tok (k := 3) S (by omega)).trans (ckd_all tk_code).2.2.1
theorem ct_4 (S : CS Z tp n cnt B A j th hd ne st E AL SL ow lb mb mk dn kd) : A 69 0 = (4 : Int32) ↔ (tk tp n j).1 = 202 := (c_tok (k := 4) S (by omega)).trans (ckd_all tk_code).2.2.2.1
theorem ct_0 (S : CS Z tp n cnt B A j th hd ne st E AL SL ow lb mb mk dn kd) : A 69 0 = (0 : Int32) ↔ (tk tp n j).1 = 0 := (c_tok (k := 0) S (by omega)).trans (ckd_all tk_code).1
theorem ct_11 (S : CS Z tp n cnt B A j th hd ne st E AL SL ow lb mb mk dn kd) : A 69 0 = (11 : Int32) ↔ (tk tp n j).1 / 100 = 3 := (c_tok (k := 11) S (by omega)).trans (ckd_al2 tk_code).1
theorem ct_12 (S : CS Z tp n cnt B A j th hd ne st E AL SL ow lb mb mk dn kd) : A 69 0 = (12 : Int32) ↔ (tk tp n j).1 / 100 = 4 := (c_tok (k := 12) S (by omega)).trans (ckd_al2 tk_code).2.1
theorem ct_13 (S : CS Z tp n cnt B A j th hd ne st E AL SL ow lb mb mk dn kd) : A 69 0 = (13 : Int32) ↔ (tk tp n j).1 / 100 = 5 := (c_tok (k := 13) S (by omega)).trans (ckd_al2 tk_code).2.2.1
theorem ct_14 (S : CS Z tp n cnt B A j th hd ne st E AL SL ow lb mb mk dn kd) : A 69 0 = (14 : Int32) ↔ (tk tp n j).1 / 100 = 6 := (c_tok (k := 14) S (by omega)).trans (ckd_al2 tk_code).2.2.2.1
theorem ct_15 (S : CS Z tp n cnt B A j th hd ne st E AL SL ow lb mb mk dn kd) : A 69 0 = (15 : Int32) ↔ (tk tp n j).1 = 700 := (c_tok (k := 15) S (by omega)).trans (ckd_al2 tk_code).2.2.2.2.1
theorem ct_16 (S : CS Z tp n cnt B A j th hd ne st E AL SL ow lb mb mk dn kd) : A 69 0 = (16 : Int32) ↔ (tk tp n j).1 = 701 := (c_tok (k := 16) S (by omega)).trans (ckd_al2 tk_code).2.2.2.2.2.1
theorem ct_17 (S : CS Z tp n cnt B A j th hd ne st E AL SL ow lb mb mk dn kd) : A 69 0 = (17 : Int32) ↔ (tk tp n j).1 = 702 := (c_tok (k := 17) S (by omega)).trans (ckd_al2 tk_code).2.2.2.2.2.2.1
theorem ct_18 (S : CS Z tp n cnt B A j th hd ne st E AL SL ow lb mb mk dn kd) : A 69 0 = (18 : Int32) ↔ (tk tp n j).1 = 704 := (c_tok (k := 18) S (by omega)).trans (ckd_al2 tk_code).2.2.2.2.2.2.2.1
theorem ct_19 (S : CS Z tp n cnt B A j th hd ne st E AL SL ow lb mb mk dn kd) : A 69 0 = (19 : Int32) ↔ (tk tp n j).1 = 703 := (c_tok (k := 19) S (by omega)).trans (ckd_al2 tk_code).2.2.2.2.2.2.2.2.1
theorem ct_20 (S : CS Z tp n cnt B A j th hd ne st E AL SL ow lb mb mk dn kd) : A 69 0 = (20 : Int32) ↔ (tk tp n j).1 = 705 := (c_tok (k := 20) S (by omega)).trans (ckd_al2 tk_code).2.2.2.2.2.2.2.2.2.1
theorem ct_21 (S : CS Z tp n cnt B A j th hd ne st E AL SL ow lb mb mk dn kd) : A 69 0 = (21 : Int32) ↔ (tk tp n j).1 = 706 := (c_tok (k := 21) S (by omega)).trans (ckd_al2 tk_code).2.2.2.2.2.2.2.2.2.2
end
