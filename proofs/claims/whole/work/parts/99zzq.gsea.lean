/-! ===== calls that search: the frame ===== -/
/-- the class but for its places, with its budgets -/
def GC0 (h : AH) (g : SG) (a b t : Nat) : Prop := SGI g ∧ GH h ∧ GVl h g ∧ (hp_n h ≤ 126 + a + pot h ∧ hp_s h ≤ 100000 + b + pot8 h) ∧ ∃ tn, tn ≤ t ∧ HB h tn
def SQ2 (h h' : AH) (x : Nat) : Prop := hp_n h ≤ hp_n h' ∧ ∀ r, SR h r → SR h' r ∧ hp_k h' r = hp_k h r ∧ hp_l h' r = hp_l h r ∧ hp_i h' r = hp_i h r ∧ (r ≠ x → hp_r h' r = hp_r h r ∧ hp_j h' r = hp_j h r)
section
variable {h h' h2 : AH} {g g' : SG} {m p pr x : Nat} {d : PD} {a b t : Nat}
theorem gc0_of (G : GC h g m) : GC0 h g (20 * m) (2000 * m) (100 * m) := ⟨G.1, G.2.1, G.2.2.1, G.2.2.2.2.1, G.2.2.2.2.2⟩
theorem gc0_to (X : GC0 h g a b t) (P : GPl h g) (ha : a ≤ 20 * m) (hb : b ≤ 2000 * m) (ht : t ≤ 100 * m) : GC h g m := by
  obtain ⟨s, gh, v, ⟨r1, r2⟩, tn, t1, t2⟩ := X
  exact ⟨s, gh, v, P, ⟨by omega, by omega⟩, tn, by omega, t2⟩
theorem sq2_of (Q : SQ h h' x) : SQ2 h h' x := ⟨Q.1, fun r hr => ⟨(Q.2 r hr).1, (Q.2 r hr).2.1, (Q.2 r hr).2.2.1, (Q.2 r hr).2.2.2.1, fun hx => ⟨(Q.2 r hr).2.2.2.2.1, (Q.2 r hr).2.2.2.2.2 hx⟩⟩⟩
theorem sq2_tr {h1 h2 h3 : AH} (a : SQ2 h1 h2 x) (b : SQ2 h2 h3 x) : SQ2 h1 h3 x := ⟨Nat.le_trans a.1 b.1, fun r hr => by
  obtain ⟨a1, a2, a3, a4, a5⟩ := a.2 r hr
  obtain ⟨b1, b2, b3, b4, b5⟩ := b.2 r a1
  exact ⟨b1, b2.trans a2, b3.trans a3, b4.trans a4, fun hx => ⟨(b5 hx).1.trans (a5 hx).1, (b5 hx).2.trans (a5 hx).2⟩⟩⟩
theorem sq2_sr {k v : Nat} (hx : 126 ≤ x) : SQ2 h (st_r h x k v) x := ⟨Nat.le_refl _, fun r hr => ⟨⟨hr.1, hr.2.1, by rw [str_r (by omega)]; exact hr.2.2.1, by rw [str_r (by omega)]; exact hr.2.2.2.1, hr.2.2.2.2⟩, rfl, rfl, rfl, fun e => ⟨str_r e, rfl⟩⟩⟩
theorem cr_fr (Q : SQ2 h h' x) {r o : Nat} (C : CR h r d o) : CR h' r d o := by
  obtain ⟨y1, y2, L, y3⟩ := C
  obtain ⟨G1, G2, G3, G4, -⟩ := Q.2 _ y1
  exact ⟨G1, by rw [G2]; exact y2, L, by rw [G4]; exact y3.1, by rw [G3]; exact y3.2.1, y3.2.2⟩
/-- the program's own cells after a step that may write x's references and longs -/
theorem cpl_self (Q : SQ2 h h' x) (kx : hp_k h x = 5) (C : CPl h pr d) (r0 : hp_r h' pr 0 = hp_r h pr 0) (r1 : hp_r h' pr 1 = hp_r h pr 1) (K : CC h' pr d) : CPl h' pr d := by
  obtain ⟨⟨a1, a2⟩, ⟨b1, b2⟩, c, ⟨e1, e2, e3, e4⟩, p, -⟩ := C
  obtain ⟨A1, A2, A3, A4, -⟩ := Q.2 pr a1
  obtain ⟨B1, B2, B3, B4, B5⟩ := Q.2 _ b1
  obtain ⟨E1, E2, E3, E4, -⟩ := Q.2 _ e1
  have hco : hp_r h pr 0 ≠ x := fun z => by rw [z, kx] at b2; exact absurd b2 (by decide)
  have B5 := (B5 hco).1
  have ek : kh h' (hp_r h pr 0) = kh h (hp_r h pr 0) := by
    funext i
    unfold kh
    by_cases ci : i < 10
    · rw [if_pos ci, if_pos ci, B5]
      exact (Q.2 _ (c i ci).1).2.2.2.1
    · rw [if_neg ci, if_neg ci, B4]
  refine ⟨⟨A1, by rw [A2]; exact a2⟩, ⟨by rw [r0]; exact B1, by rw [r0, B2]; exact b2⟩, fun i hi => ?_, ⟨by rw [r1]; exact E1, by rw [r1, E2]; exact e2, by rw [r1, E3]; exact e3, by rw [r1, E4]; exact e4⟩, ⟨by rw [r0, ek]; exact p.1, p.2⟩, K⟩
  obtain ⟨F1, F2, F3, -⟩ := Q.2 _ (c i hi).1
  rw [r0, B5]
  exact ⟨F1, by rw [F2]; exact (c i hi).2.1, by rw [F3]; exact (c i hi).2.2⟩
theorem cpl_fr2 (Q : SQ2 h h' x) (kx : hp_k h x = 5) (hx : pr ≠ x) (C : CPl h pr d) : CPl h' pr d := by
  have C' := C
  obtain ⟨⟨a1, a2⟩, -, -, -, -, q1, q2, q3, q4⟩ := C
  obtain ⟨A1, A2, A3, A4, A5⟩ := Q.2 pr a1
  obtain ⟨A5, j0⟩ := A5 hx
  refine cpl_self Q kx C' (by rw [A5]) (by rw [A5]) ⟨fun o ho => ?_, fun z => ?_, fun z => ?_, ?_⟩
  · rw [A5]; exact (q1 o ho).imp id (cr_fr Q)
  · rw [A5] at z
    rw [j0]
    exact q2 z
  · rw [A5] at z
    rw [j0]
    exact q3 z
  · rw [A4, j0]
    exact q4
/-- the places after such a step -/
theorem gpl_s2 (P : GPl h g) (hp : p < 8) (hd : sD g p = some d) (Q : SQ2 h h' (hp_r h 66 p)) (e66 : hp_r h' 66 = hp_r h 66) (C : CPl h' (hp_r h 66 p) d) : GPl h' g := by
  obtain ⟨d1, d2⟩ := P
  have kx : hp_k h (hp_r h 66 p) = 5 ∧ hp_r h 66 p ≠ 0 := by
    rcases d1 p hp with ⟨e1, _⟩ | ⟨_, _, e2⟩
    · rw [hd] at e1; cases e1
    · exact ⟨e2.1.2, by have := e2.1.1.1; omega⟩
  unfold GPl
  rw [e66]
  refine ⟨fun q hq => ?_, d2⟩
  by_cases e : q = p
  · subst e; exact Or.inr ⟨d, hd, C⟩
  · refine (d1 q hq).imp id (fun ⟨y, y1, y2⟩ => ⟨y, y1, cpl_fr2 Q kx.1 (fun z => ?_) y2⟩)
    have := d2 q p hq hp e z
    rw [z] at this
    exact kx.2 this
theorem nqw {tn r : Nat} (H : HB h tn) (G : GH h) (hpr : 126 ≤ pr) (hr : r < 74 ∨ (98 < r ∧ r < 126)) (hk : hp_k h r ≠ 101 ∨ hp_l h r < 256) : ¬ QW h pr r := by
  obtain ⟨L, s0, ⟨s1, s1'⟩, ⟨s2, s2'⟩, ⟨s3, s3'⟩, ⟨s4, s4'⟩, s5, s6, s7, k, k1, k2, k3⟩ := H.2.2.1
  have w1 := G.2.2.2.2.2.2.2.1
  have w2 := G.2.2.2.2.2.2.2.2
  have L8 : 256 ≤ L := by
    rw [k1]
    exact Nat.pow_le_pow_right (n := 2) (by omega) k2
  have no : ∀ q, ok_o h q 101 → hp_l h q = L → r ≠ q := fun q o l z => by
    subst z
    rcases hk with z | z
    · exact z o.2.2
    · omega
  intro w
  rcases w with w | w | w | w | w | w | w | w | w | w | w | w
  · omega
  · omega
  · omega
  · omega
  · omega
  · omega
  · omega
  · omega
  · omega
  · omega
  · rcases w with w | w | w | w | w
    · omega
    · exact no _ s1 s1' w
    · exact no _ s2 s2' w
    · exact no _ s3 s3' w
    · omega
  · omega
/-- what a search leaves of the class's own cells -/
theorem fq_p {tn : Nat} (gh : GH h) (t2 : HB h tn) (R : RZ h) (S : SR h pr) (F : FQ h h2 pr) : GH h2 ∧ CLF h h2 ∧ hp_r h2 66 = hp_r h 66 ∧ (∀ r, r = 64 ∨ r = 65 ∨ r = 67 ∨ r = 72 ∨ r = 73 → hp_i h2 r = hp_i h r) ∧ ∀ k, k ≠ 6 → k ≠ 8 → k ≠ 11 → hp_i h2 74 k = hp_i h 74 k := by
  have B := gh_lt gh
  have hpr := S.1
  obtain ⟨f1, f2, f3, -, f5, f6, f7, -, -⟩ := F
  have sm : ∀ r, r < 74 ∨ (98 < r ∧ r < 126) → (hp_k h r ≠ 101 ∨ hp_l h r < 256) → hp_i h2 r = hp_i h r ∧ hp_j h2 r = hp_j h r ∧ hp_r h2 r = hp_r h r := fun r hr hk => f3 r (by omega) (nqw t2 gh hpr hr hk)
  have ok : ∀ {r c}, ok_o h r c → ok_o h2 r c := fun o => ⟨o.1, Nat.lt_of_lt_of_le o.2.1 f1, by rw [(f2 _ o.2.1).1]; exact o.2.2⟩
  have l : ∀ {r c}, ok_o h r c → hp_l h2 r = hp_l h r := fun o => (f2 _ o.2.1).2
  have km : ∀ {r c}, ok_o h r c → c ≠ 101 → hp_k h r ≠ 101 ∨ hp_l h r < 256 := fun o c => Or.inl (by rw [o.2.2]; exact c)
  obtain ⟨⟨q1, q2⟩, ⟨⟨c1, c2, c2'⟩, ⟨c3, c4⟩, c5, ⟨c6, c7, c8⟩, ⟨c9, c10⟩, c11⟩, ⟨q3, q4⟩, ⟨q5, q6⟩, ⟨q7, q8, q9, q10⟩, ⟨q11, q12, q13, q14, q15, q16, q17⟩, ⟨q18, q19⟩, q20, q21⟩ := gh
  have e64 := sm 64 (by omega) (km q1 (by decide))
  have e65 := sm 65 (by omega) (km c9 (by decide))
  have e66 := sm 66 (by omega) (km q3 (by decide))
  have e67 := sm 67 (by omega) (km q5 (by decide))
  have e68 := sm 68 (by omega) (km c1 (by decide))
  have e69 := sm 69 (by omega) (km c5 (by decide))
  have e72 := sm 72 (by omega) (km q7 (by decide))
  have e73 := sm 73 (by omega) (km q9 (by decide))
  have e99 := sm 99 (by omega) (km q11 (by decide))
  refine ⟨?_, ⟨f1, fun r h1 h2' => ⟨(f2 r (by omega)).1, (f2 r (by omega)).2, fun h3 => ?_⟩⟩, e66.2.2, fun r hr => ?_, f5⟩
  · unfold GH CH
    rw [e64.2.2, e68.2.2, e69.2.2, e72.2.2, e99.2.2, l c3, l c7, l c9, l q3, l q5, l q9, l q14, l q16, l q18]
    refine ⟨⟨ok q1, q2⟩, ⟨⟨ok c1, c2, c2'⟩, ⟨ok c3, c4⟩, ok c5, ⟨c6, ok c7, c8⟩, ⟨ok c9, c10⟩, by omega⟩, ⟨ok q3, q4⟩, ⟨ok q5, q6⟩, ⟨ok q7, q8, ok q9, q10⟩, ⟨ok q11, q12, q13, ok q14, q15, ok q16, q17⟩, ⟨ok q18, q19⟩, ?_, ?_⟩
    · rcases f6 with z | z
      · rw [z]; exact q20
      · exact Or.inr (by omega)
    · rcases f7 with z | z
      · rw [z]; exact q21
      · exact Or.inr (by omega)
  · refine sm r (by omega) ?_
    by_cases z : r = 105
    · right
      rw [z, R.2.2.2.2.1]
      omega
    · left
      by_cases z2 : r = 102
      · rw [z2, R.1.2.2]; decide
      · have : ∃ x, x ∈ rzL ∧ x.2.1 = r := by
          have key : ∀ r, r < 125 → 102 ≤ r → r ≠ 102 → r ≠ 105 → ∃ x, x ∈ rzL ∧ x.2.1 = r := by decide
          exact key r (by omega) (by omega) z2 z
        obtain ⟨x, x1, x2⟩ := this
        rw [← x2, (R.2.1 x x1).2.1.2.2]; decide
  · rcases hr with z | z | z | z | z
    · rw [z]; exact e64.1
    · rw [z]; exact e65.1
    · rw [z]; exact e67.1
    · rw [z]; exact e72.1
    · rw [z]; exact e73.1
theorem gc0_fq {tn2 : Nat} (X : GC0 h g a b t) (R : RZ h) (S : SR h pr) (F : FQ h h2 pr) (H2 : HB h2 tn2) (ht : tn2 ≤ t + 1) (h98 : ∀ k, k < swm g → hp_i h2 98 k = hp_i h 98 k) : GC0 h2 g a b (t + 1) ∧ CLF h h2 ∧ hp_r h2 66 = hp_r h 66 := by
  obtain ⟨s, gh, v, ⟨r1, r2⟩, tn, t1, t2⟩ := X
  obtain ⟨y1, y2, y3, y4, y5⟩ := fq_p gh t2 R S F
  obtain ⟨-, -, -, -, -, -, -, f8, f9⟩ := F
  refine ⟨⟨s, y1, ?_, ⟨by omega, by omega⟩, tn2, ht, H2⟩, y2, y3⟩
  unfold GVl GVA at *
  rw [y4 64 (by omega), y4 65 (by omega), y4 72 (by omega), y4 73 (by omega), y4 67 (by omega), y5 5 (by omega) (by omega) (by omega)]
  exact ⟨v.1, v.2.1, v.2.2.1, v.2.2.2.1, v.2.2.2.2.1, fun k hk => (h98 k hk).trans (v.2.2.2.2.2 k hk)⟩
theorem gc0_na {c n : Nat} (X : GC0 h g a b t) (N : NA h h2 c n) : GC0 h2 g (a + 1) (b + n) t ∧ CLF h h2 ∧ hp_r h2 66 = hp_r h 66 := by
  have N' := N
  obtain ⟨s, gh, v, ⟨r1, r2⟩, tn, t1, t2⟩ := X
  obtain ⟨n1, n2, n3, n4, n5⟩ := N
  have B := gh_lt gh
  have ok : ∀ {r c}, ok_o h r c → ok_o h2 r c := fun o => ⟨o.1, by have := o.2.1; omega, by rw [(n3 _ o.2.1).1]; exact o.2.2⟩
  have l : ∀ r, r < 126 → hp_l h2 r = hp_l h r := fun r hr => (n3 _ (by omega)).2.1
  have i : ∀ r, r < 126 → hp_i h2 r = hp_i h r := fun r hr => (n3 _ (by omega)).2.2.1
  have rr : ∀ r, r < 126 → hp_r h2 r = hp_r h r := fun r hr => (n3 _ (by omega)).2.2.2.2
  have o90 := t2.2.2.1.choose_spec.2.2.2.2.1.1
  have o95 := t2.2.2.2.1.choose_spec.2.1
  have e90 : hp_l h2 (hp_r h 90 3) = hp_l h (hp_r h 90 3) := (n3 _ o90.2.1).2.1
  have e95 : hp_l h2 (hp_r h 95 0) = hp_l h (hp_r h 95 0) := (n3 _ o95.2.1).2.1
  refine ⟨⟨s, ?_, ?_, ⟨?_, ?_⟩, tn, t1, hb_na N' t2⟩, ⟨by omega, fun r h1 h2 => ⟨(n3 r (by omega)).1, l r (by omega), fun _ => ⟨i r (by omega), (n3 r (by omega)).2.2.2.1, rr r (by omega)⟩⟩⟩, rr 66 (by omega)⟩
  · obtain ⟨⟨q1, q2⟩, ⟨⟨c1, c2⟩, ⟨c3, c4⟩, c5, ⟨c6, c7, c8⟩, ⟨c9, c10⟩, c11⟩, ⟨q3, q4⟩, ⟨q5, q6⟩, ⟨q7, q8, q9, q10⟩, ⟨q11, q12, q13, q14, q15, q16, q17⟩, ⟨q18, q19⟩, q20⟩ := gh
    unfold GH CH
    rw [rr 64 (by omega), rr 68 (by omega), rr 69 (by omega), rr 72 (by omega), rr 99 (by omega), rr 90 (by omega), rr 95 (by omega), l 71 (by omega), l 70 (by omega), l 65 (by omega), l 66 (by omega), l 67 (by omega), l 73 (by omega), l 100 (by omega), l 101 (by omega), l 125 (by omega)]
    exact ⟨⟨ok q1, q2⟩, ⟨⟨ok c1, c2⟩, ⟨ok c3, c4⟩, ok c5, ⟨c6, ok c7, c8⟩, ⟨ok c9, c10⟩, by omega⟩, ⟨ok q3, q4⟩, ⟨ok q5, q6⟩, ⟨ok q7, q8, ok q9, q10⟩, ⟨ok q11, q12, q13, ok q14, q15, ok q16, q17⟩, ⟨ok q18, q19⟩, q20⟩
  · unfold GVl GVA at *
    rw [i 64 (by omega), i 65 (by omega), i 72 (by omega), i 73 (by omega), i 67 (by omega), i 74 (by omega), i 98 (by omega)]
    exact v
  · unfold pot at *
    rw [rr 90 (by omega), rr 95 (by omega), e90, e95]
    omega
  · unfold pot8 at *
    rw [rr 90 (by omega), rr 95 (by omega), e90, e95]
    omega
theorem gc0_sr {k v : Nat} (X : GC0 h g a b t) (hx : 126 ≤ x) : GC0 (st_r h x k v) g a b t ∧ CLF h (st_r h x k v) ∧ hp_r (st_r h x k v) 66 = hp_r h 66 := by
  obtain ⟨s, gh, vv, r, tn, t1, t2⟩ := X
  have er : ∀ r, r < 126 → hp_r (st_r h x k v) r = hp_r h r := fun r hr => str_r (by omega)
  refine ⟨⟨s, ?_, vv, ?_, tn, t1, ?_⟩, ⟨Nat.le_refl _, fun r h1 h2 => ⟨rfl, rfl, fun h3 => ⟨rfl, rfl, er r (by omega)⟩⟩⟩, er 66 (by omega)⟩
  · unfold GH CH at *
    rw [er 64 (by omega), er 68 (by omega), er 69 (by omega), er 72 (by omega), er 99 (by omega), er 90 (by omega), er 95 (by omega)]
    exact gh
  · unfold pot pot8 at *
    rw [er 90 (by omega), er 95 (by omega)]
    exact r
  · have e74 := er 74 (by omega)
    have e75 := er 75 (by omega)
    have e90 := er 90 (by omega)
    have e95 := er 95 (by omega)
    unfold HB SI0 OI TB at *
    rw [e74, e75, e90, e95]
    exact t2
end
