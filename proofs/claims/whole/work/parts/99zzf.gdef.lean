/-! ===== the house between calls: the class's programs ===== -/
/-- a cell of the class's programs -/
def SR (h : AH) (r : Nat) : Prop := 126 ≤ r ∧ r < hp_n h ∧ r ≠ hp_r h 90 3 ∧ r ≠ hp_r h 95 0 ∧ hp_k h r ≠ 101
/-- a step that keeps them; of x only longs change -/
def SQ (h h' : AH) (x : Nat) : Prop := hp_n h ≤ hp_n h' ∧ ∀ r, SR h r → SR h' r ∧ hp_k h' r = hp_k h r ∧ hp_l h' r = hp_l h r ∧ hp_i h' r = hp_i h r ∧ hp_r h' r = hp_r h r ∧ (r ≠ x → hp_j h' r = hp_j h r)
theorem sq_tr {h1 h2 h3 : AH} {x : Nat} (a : SQ h1 h2 x) (b : SQ h2 h3 x) : SQ h1 h3 x := ⟨Nat.le_trans a.1 b.1, fun r hr => by
  obtain ⟨a1, a2, a3, a4, a5, a6⟩ := a.2 r hr
  obtain ⟨b1, b2, b3, b4, b5, b6⟩ := b.2 r a1
  exact ⟨b1, b2.trans a2, b3.trans a3, b4.trans a4, b5.trans a5, fun hx => (b6 hx).trans (a6 hx)⟩⟩
/-- the rows of a code -/
def kh (h : AH) (co : Nat) : Nat → Nat → Int32 := fun i => if i < 10 then hp_i h (hp_r h co i) else hp_i h co
/-- entries, actions, starts, owners, kinds, statements, locals, monitors, maker, done, the code's rows -/
abbrev PD : Type := List Ent × List Act × List Nat × (Nat → Int32) × (Nat → Int32) × Nat × Int32 × Int32 × Int32 × Int32 × (Nat → Nat → Int32)
def pE (d : PD) : List Ent := d.1
def pA (d : PD) : List Act := d.2.1
def pS (d : PD) : List Nat := d.2.2.1
def pO (d : PD) : Nat → Int32 := d.2.2.2.1
def pK (d : PD) : Nat → Int32 := d.2.2.2.2.1
def pst (d : PD) : Nat := d.2.2.2.2.2.1
def plb (d : PD) : Int32 := d.2.2.2.2.2.2.1
def pmb (d : PD) : Int32 := d.2.2.2.2.2.2.2.1
def pmk (d : PD) : Int32 := d.2.2.2.2.2.2.2.2.1
def pdn (d : PD) : Int32 := d.2.2.2.2.2.2.2.2.2.1
def pR (d : PD) : Nat → Nat → Int32 := d.2.2.2.2.2.2.2.2.2.2
/-- the lists of d, their code -/
def PDk (d : PD) : Prop := LL (pE d) (pA d) (pS d) (pO d) (pK d) (pst d) (plb d) (pmb d) (pmk d) (pdn d) ∧ LK (pR d) (pE d) (pA d) (pS d) (pst d) (plb d) (pmb d) (pmk d) (pdn d) ∧ KDI (pK d)
/-- the ends of d under order o -/
def EN (d : PD) (o : Nat) (s : AS) : Prop := Ends (KP (pR d)) (Vk (pK d)) o s
/-- the class's row of outcomes -/
def CR (h : AH) (r : Nat) (d : PD) (o : Nat) : Prop := SR h r ∧ hp_k h r = 100 ∧ ∃ L, RowIs (hp_i h r) L ∧ L.length = hp_l h r ∧ srt L ∧ L.length ≤ 1024 ∧ ∀ z, z ∈ L ↔ ∃ s, EN d o s ∧ z = oN (owN (pO d)) (pS d).length s
def bit1 (x : Int64) (k : Nat) : Prop := fd x k 1 = 1
def CB (J : Nat → Int64) (d : PD) : Prop := ∀ i j, i < 8 → j < 8 →
  (bit1 (J 2) (8 * j + i) ↔ ∃ s, EN d 2 s ∧ as_do s i ∧ as_do s j) ∧ (bit1 (J 3) (8 * j + i) ↔ ∃ s, EN d 2 s ∧ as_ea s j i) ∧
  (bit1 (J 4) (8 * j + i) ↔ ∃ s, EN d 2 s ∧ (as_do s i ∧ as_do s j) ∧ ¬ as_ea s j i)
def CRa (x : Int64) (d : PD) : Prop := ∀ k, k < 64 → (fd x k 1 = 1 ↔ ∃ i j, j < 8 ∧ i < j ∧ k = 8 * i + j ∧ m_mr (pR d) (pK d) i j = true ∧ ∃ s, EN d 0 s ∧ as_do s i ∧ as_do s j ∧ ¬ as_ea s j i ∧ ¬ as_ea s i j)
/-- what the class keeps of a program's searches -/
def CC (h : AH) (pr : Nat) (d : PD) : Prop :=
  (∀ o, o < 3 → hp_r h pr (7 + o) = 0 ∨ CR h (hp_r h pr (7 + o)) d o) ∧ (hp_r h pr 9 = 0 → hp_j h pr 2 = 0 ∧ hp_j h pr 3 = 0 ∧ hp_j h pr 4 = 0) ∧ (hp_r h pr 9 ≠ 0 → CB (hp_j h pr) d) ∧ (hp_i h pr 6 = 0 ∨ (hp_i h pr 6 = 1 ∧ CRa (hp_j h pr 5) d))
/-- the class's program pr is d -/
def CPl (h : AH) (pr : Nat) (d : PD) : Prop :=
  (SR h pr ∧ hp_k h pr = 5) ∧ (SR h (hp_r h pr 0) ∧ hp_k h (hp_r h pr 0) = 0) ∧ (∀ i, i < 10 → SR h (hp_r h (hp_r h pr 0) i) ∧ hp_k h (hp_r h (hp_r h pr 0) i) = 100 ∧ hp_l h (hp_r h (hp_r h pr 0) i) = m_len i) ∧
  (SR h (hp_r h pr 1) ∧ hp_k h (hp_r h pr 1) = 100 ∧ hp_l h (hp_r h pr 1) = 8 ∧ hp_i h (hp_r h pr 1) = pK d) ∧ (kh h (hp_r h pr 0) = pR d ∧ PDk d) ∧ CC h pr d
section
variable {h h' : AH} {pr x : Nat} {d : PD}
theorem sr_ok {r c : Nat} (S : SR h r) (hk : hp_k h r = c) : ok_o h r c := ⟨by have := S.1; omega, S.2.1, hk⟩
theorem sr_nr {r : Nat} (S : SR h r) : ¬ NR h r := fun n => by
  obtain ⟨a, b, c, e, f⟩ := S
  rcases n with n | n | n | n | n | n | n
  · omega
  · omega
  · omega
  · omega
  · omega
  · exact c n
  · exact e n
theorem cpl_pb (C : CPl h pr d) : PB h pr (hp_r h pr 0) (pR d) (pK d) := by
  obtain ⟨⟨a1, a2⟩, ⟨b1, b2⟩, c, ⟨e1, e2, e3, e4⟩, ⟨q, -⟩, -⟩ := C
  rw [← q]
  refine ⟨sr_ok a1 a2, rfl, ⟨sr_ok b1 b2, fun i hi => ⟨sr_ok (c i hi).1 (c i hi).2.1, (c i hi).2.2, ?_⟩, rfl⟩, fun i hi => sr_nr (c i hi).1, sr_ok e1 e2, e3, e4, sr_nr e1⟩
  unfold kh
  rw [if_pos hi]
theorem pdk_kw (P : PDk d) : KW (pR d) (teE (pE d)) (owN (pO d)) (pA d).length (pS d).length (pE d).length := kw_of P.1 P.2.1
/-- a step elsewhere -/
theorem cpl_fr (Q : SQ h h' x) (hx : pr ≠ x) (C : CPl h pr d) : CPl h' pr d := by
  obtain ⟨⟨a1, a2⟩, ⟨b1, b2⟩, c, ⟨e1, e2, e3, e4⟩, p, q1, q2, q3, q4⟩ := C
  obtain ⟨A1, A2, A3, A4, A5, A6⟩ := Q.2 pr a1
  obtain ⟨B1, B2, B3, B4, B5, -⟩ := Q.2 _ b1
  obtain ⟨E1, E2, E3, E4, E5, -⟩ := Q.2 _ e1
  have r0 : hp_r h' pr 0 = hp_r h pr 0 := by rw [A5]
  have ek : kh h' (hp_r h pr 0) = kh h (hp_r h pr 0) := by
    funext i
    unfold kh
    by_cases ci : i < 10
    · rw [if_pos ci, if_pos ci, B5]
      exact (Q.2 _ (c i ci).1).2.2.2.1
    · rw [if_neg ci, if_neg ci, B4]
  have j0 := A6 hx
  refine ⟨⟨A1, by rw [A2]; exact a2⟩, ⟨by rw [r0]; exact B1, by rw [r0, B2]; exact b2⟩, fun i hi => ?_, ⟨by rw [A5]; exact E1, by rw [A5, E2]; exact e2, by rw [A5, E3]; exact e3, by rw [A5, E4]; exact e4⟩, ⟨by rw [r0, ek]; exact p.1, p.2⟩, ?_⟩
  · obtain ⟨F1, F2, F3, -⟩ := Q.2 _ (c i hi).1
    rw [r0, B5]
    exact ⟨F1, by rw [F2]; exact (c i hi).2.1, by rw [F3]; exact (c i hi).2.2⟩
  · refine ⟨fun o ho => ?_, fun z => ?_, fun z => ?_, ?_⟩
    · rw [A5]
      refine (q1 o ho).imp id (fun y => ?_)
      obtain ⟨y1, y2, L, y3⟩ := y
      obtain ⟨G1, G2, G3, G4, -⟩ := Q.2 _ y1
      exact ⟨G1, by rw [G2]; exact y2, L, by rw [G4]; exact y3.1, by rw [G3]; exact y3.2.1, y3.2.2⟩
    · rw [A5] at z
      rw [j0]
      exact q2 z
    · rw [A5] at z
      rw [j0]
      exact q3 z
    · rw [A4, j0]
      exact q4
theorem lk_cg {K K' : Nat → Nat → Int32} {E : List Ent} {AL : List Act} {SL : List Nat} {st : Nat} {lb mb mk dn : Int32} (e : ∀ i, i ≤ 10 → K' i = K i) (H : LK K E AL SL st lb mb mk dn) : LK K' E AL SL st lb mb mk dn := by
  unfold LK at *
  rw [e 0 (by omega), e 1 (by omega), e 2 (by omega), e 3 (by omega), e 4 (by omega), e 5 (by omega), e 6 (by omega), e 7 (by omega), e 8 (by omega), e 9 (by omega), e 10 (by omega)]
  exact H
theorem ll_kd {E : List Ent} {AL : List Act} {SL : List Nat} {ow kd kd' : Nat → Int32} {st : Nat} {lb mb mk dn : Int32} (e : ∀ c, c < 6 → kd c = 2 → kd' c = 2) (H : LL E AL SL ow kd st lb mb mk dn) : LL E AL SL ow kd' st lb mb mk dn := by
  obtain ⟨⟨va, v⟩, r⟩ := H
  refine ⟨⟨fun x hx => ⟨(va x hx).1, ?_⟩, v⟩, r⟩
  obtain ⟨f1, f2, f3, f4, f5⟩ := (va x hx).2
  exact ⟨f1, f2, f3, fun o => (f4 o).imp (fun c hc => ⟨hc.1, hc.2.1, fun z => e c hc.1 (hc.2.2 z)⟩), f5⟩
/-- a step that writes no program -/
theorem sq_of (hn : hp_n h ≤ hp_n h') (h1 : ∀ r, 126 ≤ r → r < hp_n h → hp_k h' r = hp_k h r ∧ hp_l h' r = hp_l h r ∧ hp_i h' r = hp_i h r ∧ hp_r h' r = hp_r h r ∧ hp_j h' r = hp_j h r) (h2 : hp_r h' 90 3 = hp_r h 90 3) (h3 : hp_r h' 95 0 = hp_r h 95 0) : SQ h h' x :=
  ⟨hn, fun r hr => by
    obtain ⟨a, b, c, e, f⟩ := hr
    obtain ⟨k, l, i, r', j⟩ := h1 r a b
    exact ⟨⟨a, by omega, by rw [h2]; exact c, by rw [h3]; exact e, by rw [k]; exact f⟩, k, l, i, r', fun _ => j⟩⟩
/-- a search -/
theorem sq_fq {tn : Nat} (H : HB h tn) (F : FQ h h' pr) (S : SR h pr) : SQ h h' pr := by
  obtain ⟨f1, f2, f3, ⟨f4, f4'⟩, f5, f6, f7, -⟩ := F
  obtain ⟨L, -, s1, s2, s3, -⟩ := H.2.2.1
  refine ⟨f1, fun r hr => ?_⟩
  have hr' := hr
  obtain ⟨a, b, c, e, f⟩ := hr
  obtain ⟨k, l⟩ := f2 r b
  refine ⟨⟨a, by omega, ?_, ?_, by rw [k]; exact f⟩, k, l, ?_⟩
  · rcases f6 with q | q
    · rw [q]; exact c
    · omega
  · rcases f7 with q | q
    · rw [q]; exact e
    · omega
  · by_cases q : r = pr
    · subst q
      exact ⟨f4', f4, fun z => absurd rfl z⟩
    · obtain ⟨i1, j1, r1⟩ := f3 r b (fun w => by
        rcases w with w | w | w | w | w | w | w | w | w | w | w | w
        · omega
        · omega
        · omega
        · omega
        · omega
        · omega
        · omega
        · omega
        · omega
        · exact q w
        · rcases w with w | w | w | w | w
          · omega
          · rw [w] at f; exact f s1.1.2.2
          · rw [w] at f; exact f s2.1.2.2
          · rw [w] at f; exact f s3.1.2.2
          · exact c w
        · exact e w)
      exact ⟨i1, r1, fun _ => j1⟩
/-- a new row -/
theorem sq_na {c n : Nat} (N : NA h h' c n) (h90 : 95 < hp_n h) : SQ h h' x := by
  obtain ⟨n1, n2, n3, n4, n5⟩ := N
  exact sq_of (by omega) (fun r _ hr => ⟨(n3 r hr).1, (n3 r hr).2.1, (n3 r hr).2.2.1, (n3 r hr).2.2.2.2, (n3 r hr).2.2.2.1⟩) (by rw [(n3 90 (by omega)).2.2.2.2]) (by rw [(n3 95 (by omega)).2.2.2.2])
end
