/-! ===== what a search leaves alone ===== -/
def SW (h : AH) (pr r : Nat) : Prop := r = 74 ∨ r = 75 ∨ r = 95 ∨ r = 97 ∨ r = 98 ∨ r = pr ∨ S4 h r ∨ r = hp_r h 95 0
/-- the search's heap at its beginning -/
def BS (h : AH) (K : Nat → Nat → Int32) (co pr goal : Nat) : Prop :=
  MR h K co ∧ SF h pr co goal ∧ (∃ L, SI h L) ∧ (∃ M, OI h M) ∧ (ok_o h 98 100 ∧ hp_l h 98 = 17 ∧ hp_r h 74 4 = 98 ∧ hp_r h 74 2 = 95) ∧
  (∀ r, (r = co ∨ (∃ i, i < 10 ∧ r = hp_r h co i) ∨ r = 76 ∨ r = 77 ∨ r = 78) → ¬ SW h pr r) ∧
  hp_r h 90 3 ≠ hp_r h 95 0 ∧ hp_r h 90 3 ≠ 97 ∧ hp_r h 90 3 ≠ 98 ∧ hp_r h 95 0 ≠ 97 ∧ hp_r h 95 0 ≠ 98
/-- what has become of it -/
def FS (h1 h : AH) (pr : Nat) : Prop :=
  hp_n h1 ≤ hp_n h ∧ (∀ r, r < hp_n h1 → hp_k h r = hp_k h1 r ∧ hp_l h r = hp_l h1 r) ∧
  (∀ r, r < hp_n h1 → ¬ SW h1 pr r → hp_i h r = hp_i h1 r ∧ hp_j h r = hp_j h1 r ∧ hp_r h r = hp_r h1 r) ∧
  (hp_r h 74 = hp_r h1 74 ∧ ∀ k, k ≠ 6 → k ≠ 11 → hp_i h 74 k = hp_i h1 74 k) ∧ (hp_r h 75 = hp_r h1 75 ∧ hp_i h 75 = hp_i h1 75) ∧ (hp_r h pr = hp_r h1 pr ∧ hp_i h pr = hp_i h1 pr) ∧
  (∀ i, i < 4 → hp_r h 90 i = hp_r h1 90 i ∨ hp_n h1 ≤ hp_r h 90 i) ∧ hp_i h 90 4 = hp_i h1 90 4 ∧ (hp_r h 95 0 = hp_r h1 95 0 ∨ hp_n h1 ≤ hp_r h 95 0) ∧
  hp_r h 90 3 ≠ hp_r h 95 0
def CG (h1 h : AH) (pr : Nat) (M : List Int32) : Prop :=
  FS h1 h pr ∧ OI h M ∧ ∃ L, SI h L ∧ hp_n h + hp_l h1 (hp_r h1 90 3) + hp_l h1 (hp_r h1 95 0) ≤ hp_n h1 + L + hp_l h (hp_r h 95 0) ∧ hp_s h + 8 * hp_l h1 (hp_r h1 90 3) + 2 * hp_l h1 (hp_r h1 95 0) ≤ hp_s h1 + 8 * L + 2 * hp_l h (hp_r h 95 0)
section
variable {h1 h : AH} {K : Nat → Nat → Int32} {co pr goal : Nat} {M : List Int32}
/-- which cells are which -/
theorem bs_ne (B : BS h1 K co pr goal) : pr ≠ 74 ∧ pr ≠ 75 ∧ pr ≠ 90 ∧ pr ≠ 95 ∧ pr ≠ 97 ∧ pr ≠ 98 ∧ pr < hp_n h1 ∧ 98 < hp_n h1 := by
  obtain ⟨M, F, ⟨L, S⟩, ⟨Mo, O⟩, ⟨w1, -⟩, -⟩ := B
  have p5 : hp_k h1 pr = 5 := F.2.2.2.2.2.2.2.2.1.2.2
  refine ⟨fun e => ?_, fun e => ?_, fun e => ?_, fun e => ?_, fun e => ?_, fun e => ?_, F.2.2.2.2.2.2.2.2.1.2.1, w1.2.1⟩
  · rw [e, F.1.2.2] at p5; omega
  · rw [e, M.1.2.2] at p5; omega
  · rw [e, S.1.2.2] at p5; omega
  · rw [e, O.1.2.2] at p5; omega
  · rw [e, F.2.2.2.2.2.1.2.2] at p5; omega
  · rw [e, w1.2.2] at p5; omega
theorem fs_k (F : FS h1 h pr) {r c : Nat} (o : ok_o h1 r c) : ok_o h r c := ⟨o.1, by have := F.1; have := o.2.1; omega, by rw [(F.2.1 r o.2.1).1]; exact o.2.2⟩
theorem fs_mr (B : BS h1 K co pr goal) (F : FS h1 h pr) : MR h K co := by
  obtain ⟨M, -, -, -, -, D, -⟩ := B
  obtain ⟨m1, m2, m3, m4, m5, m6, m7, m8, m9, m10⟩ := M
  have f75 := F.2.2.2.2.1
  have cc := F.2.2.1 co m3.2.1 (D co (Or.inl rfl))
  have q76 := F.2.2.1 76 m6.2.1.2.1 (D 76 (Or.inr (Or.inr (Or.inl rfl))))
  have q77 := F.2.2.1 77 m7.2.1.2.1 (D 77 (Or.inr (Or.inr (Or.inr (Or.inl rfl)))))
  have q78 := F.2.2.1 78 m8.2.1.2.1 (D 78 (Or.inr (Or.inr (Or.inr (Or.inr rfl)))))
  refine ⟨fs_k F m1, by rw [f75.1]; exact m2, fs_k F m3, fun i hi => ?_, by rw [cc.1]; exact m5, ⟨by rw [f75.1]; exact m6.1, fs_k F m6.2.1, by rw [(F.2.1 76 m6.2.1.2.1).2]; exact m6.2.2.1, by rw [q76.1]; exact m6.2.2.2⟩, ⟨by rw [f75.1]; exact m7.1, fs_k F m7.2.1, by rw [(F.2.1 77 m7.2.1.2.1).2]; exact m7.2.2.1, by rw [q77.1]; exact m7.2.2.2⟩, ⟨by rw [f75.1]; exact m8.1, fs_k F m8.2.1, by rw [(F.2.1 78 m8.2.1.2.1).2]; exact m8.2.2.1, by rw [q78.1]; exact m8.2.2.2⟩, by rw [f75.2]; exact m9, by rw [f75.2]; exact m10⟩
  obtain ⟨a1, a2, a3⟩ := m4 i hi
  rw [cc.2.2]
  have q := F.2.2.1 _ a1.2.1 (D _ (Or.inr (Or.inl ⟨i, hi, rfl⟩)))
  exact ⟨fs_k F a1, by rw [(F.2.1 _ a1.2.1).2]; exact a2, by rw [q.1]; exact a3⟩
theorem fs_sf (B : BS h1 K co pr goal) (F : FS h1 h pr) : SF h pr co goal := by
  obtain ⟨-, S, -⟩ := B
  obtain ⟨s1, s2, s3, s4, s5, s6, s7, s8, s9, s10, s11⟩ := S
  have f74 := F.2.2.2.1
  exact ⟨fs_k F s1, by rw [f74.1]; exact s2, by rw [f74.1]; exact s3, fs_k F s4, by rw [f74.1]; exact s5, fs_k F s6, by rw [(F.2.1 97 s6.2.1).2]; exact s7, by rw [f74.1]; exact s8, fs_k F s9, by rw [F.2.2.2.2.2.1.1]; exact s10, by rw [f74.2 8 (by decide) (by decide)]; exact s11⟩
theorem cg_0 (B : BS h1 K co pr goal) (O : OI h1 M) : CG h1 h1 pr M := by
  obtain ⟨-, -, ⟨L, S⟩, -, -, -, d1, -⟩ := B
  refine ⟨⟨Nat.le_refl _, fun _ _ => ⟨rfl, rfl⟩, fun _ _ _ => ⟨rfl, rfl, rfl⟩, ⟨rfl, fun _ _ _ => rfl⟩, ⟨rfl, rfl⟩, ⟨rfl, rfl⟩, fun _ _ => Or.inl rfl, rfl, Or.inl rfl, d1⟩, O, L, S, ?_, ?_⟩
  · rw [S.2.2.2.2.1.2]; exact Nat.le_refl _
  · rw [S.2.2.2.2.1.2]; exact Nat.le_refl _
/-- a row of the memory, or the row of outcomes: not a cell of the search, not the program -/
theorem cg_s4 (B : BS h1 K co pr goal) (C : CG h1 h pr M) : ∀ r, S4 h r → r ≠ 74 ∧ r ≠ 75 ∧ r ≠ 95 ∧ r ≠ 97 ∧ r ≠ 98 ∧ r ≠ pr ∧ r ≠ hp_r h 95 0 := by
  obtain ⟨F, O, L, S, -⟩ := C
  have SFh := fs_sf B F
  have MRh := fs_mr B F
  obtain ⟨b1, b2, b3, b4, b5, b6, b7, b8⟩ := bs_ne B
  obtain ⟨-, -, -, -, ⟨w1, -⟩, -, d1, d2, d3, d4, d5⟩ := B
  have k74 : hp_k h 74 = 8 := SFh.1.2.2
  have k75 : hp_k h 75 = 2 := MRh.1.2.2
  have k95 : hp_k h 95 = 3 := O.1.2.2
  have k97 : hp_k h 97 = 100 := SFh.2.2.2.2.2.1.2.2
  have k98 : hp_k h 98 = 100 := (fs_k F w1).2.2
  have kpr : hp_k h pr = 5 := SFh.2.2.2.2.2.2.2.2.1.2.2
  have krow : hp_k h (hp_r h 95 0) = 100 := O.2.1.2.2
  have n98 := b8
  have lng : ∀ r, hp_k h r = 101 → r ≠ 74 ∧ r ≠ 75 ∧ r ≠ 95 ∧ r ≠ 97 ∧ r ≠ 98 ∧ r ≠ pr ∧ r ≠ hp_r h 95 0 := fun r hr => by
    refine ⟨?_, ?_, ?_, ?_, ?_, ?_, ?_⟩ <;> (intro e; rw [e] at hr; omega)
  rintro r (e | e | e | e | e)
  · subst e
    have k90 : hp_k h 90 = 9 := S.1.2.2
    refine ⟨by decide, by decide, by decide, by decide, by decide, fun e => b3 e.symm, fun e => ?_⟩
    rw [← e, k90] at krow; omega
  · rw [e]; exact lng _ S.2.1.1.2.2
  · rw [e]; exact lng _ S.2.2.1.1.2.2
  · rw [e]; exact lng _ S.2.2.2.1.1.2.2
  · rw [e]
    have kt : hp_k h (hp_r h 90 3) = 100 := S.2.2.2.2.1.1.2.2
    have ft := F.2.2.2.2.2.2.1 3 (by omega)
    refine ⟨fun e => ?_, fun e => ?_, fun e => ?_, fun e => ?_, fun e => ?_, fun e => ?_, F.2.2.2.2.2.2.2.2.2⟩
    · rw [e] at kt; omega
    · rw [e] at kt; omega
    · rw [e] at kt; omega
    · obtain f | f := ft
      · exact d2 (f.symm.trans e)
      · omega
    · obtain f | f := ft
      · exact d3 (f.symm.trans e)
      · omega
    · rw [e] at kt; omega
theorem cg_row (B : BS h1 K co pr goal) (C : CG h1 h pr M) : hp_r h 95 0 ≠ 74 ∧ hp_r h 95 0 ≠ 75 ∧ hp_r h 95 0 ≠ 90 ∧ hp_r h 95 0 ≠ 95 ∧ hp_r h 95 0 ≠ 97 ∧ hp_r h 95 0 ≠ 98 ∧ hp_r h 95 0 ≠ pr := by
  obtain ⟨F, O, L, S, -⟩ := C
  have SFh := fs_sf B F
  have MRh := fs_mr B F
  obtain ⟨b1, b2, b3, b4, b5, b6, b7, b8⟩ := bs_ne B
  obtain ⟨-, -, -, -, ⟨w1, -⟩, -, d1, d2, d3, d4, d5⟩ := B
  have k74 : hp_k h 74 = 8 := SFh.1.2.2
  have k75 : hp_k h 75 = 2 := MRh.1.2.2
  have k90 : hp_k h 90 = 9 := S.1.2.2
  have kpr : hp_k h pr = 5 := SFh.2.2.2.2.2.2.2.2.1.2.2
  have krow : hp_k h (hp_r h 95 0) = 100 := O.2.1.2.2
  have fr := F.2.2.2.2.2.2.2.2.1
  refine ⟨fun e => ?_, fun e => ?_, fun e => ?_, oi_95 O, fun e => ?_, fun e => ?_, fun e => ?_⟩
  · rw [e] at krow; omega
  · rw [e] at krow; omega
  · rw [e] at krow; omega
  · obtain f | f := fr
    · exact d4 (f.symm.trans e)
    · omega
  · obtain f | f := fr
    · exact d5 (f.symm.trans e)
    · omega
  · rw [e] at krow; omega
/-- the search's own cells change, the memory and the outcomes don't -/
theorem cg_own (B : BS h1 K co pr goal) (C : CG h1 h pr M) {h' : AH} (e1 : hp_n h' = hp_n h) (e2 : hp_s h' = hp_s h) (e3 : hp_k h' = hp_k h) (e4 : hp_l h' = hp_l h) (e5 : hp_r h' = hp_r h) (e6 : ∀ r, r ≠ 74 → r ≠ 97 → r ≠ 98 → hp_i h' r = hp_i h r) (e7 : ∀ r, r ≠ 74 → r ≠ 75 → r ≠ pr → hp_j h' r = hp_j h r) (e8 : ∀ k, k ≠ 6 → k ≠ 11 → hp_i h' 74 k = hp_i h 74 k) : CG h1 h' pr M ∧ ∀ y, VS h' y ↔ VS h y := by
  have h4 := cg_s4 B C
  have hr := cg_row B C
  obtain ⟨b1, b2, b3, b4, b5, b6, b7, b8⟩ := bs_ne B
  obtain ⟨F, O, L, S, n1, n2⟩ := C
  obtain ⟨f1, f2, f3, f4, f5, f6, f7, f8, f9, f10⟩ := F
  have i90 : hp_i h' 90 = hp_i h 90 := e6 90 (by decide) (by decide) (by decide)
  have it : hp_i h' (hp_r h 90 3) = hp_i h (hp_r h 90 3) := by
    have := h4 _ (Or.inr (Or.inr (Or.inr (Or.inr rfl))))
    exact e6 _ this.1 this.2.2.2.1 this.2.2.2.2.1
  have j0 : ∀ i, i < 3 → hp_j h' (hp_r h 90 i) = hp_j h (hp_r h 90 i) := fun i hi => by
    have c : i = 0 ∨ i = 1 ∨ i = 2 := by omega
    have : S4 h (hp_r h 90 i) := by
      obtain rfl | rfl | rfl := c
      · exact Or.inr (Or.inl rfl)
      · exact Or.inr (Or.inr (Or.inl rfl))
      · exact Or.inr (Or.inr (Or.inr (Or.inl rfl)))
    have := h4 _ this
    exact e7 _ this.1 this.2.1 this.2.2.2.2.2.1
  refine ⟨⟨⟨by omega, fun r a => by rw [e3, e4]; exact f2 r a, fun r a b => ?_, ⟨by rw [e5]; exact f4.1, fun k a b => by rw [e8 k a b]; exact f4.2 k a b⟩, ⟨by rw [e5]; exact f5.1, by rw [e6 75 (by decide) (by decide) (by decide)]; exact f5.2⟩, ⟨by rw [e5]; exact f6.1, by rw [e6 pr b1 b5 b6]; exact f6.2⟩, fun i a => by rw [e5]; exact f7 i a, by rw [i90]; exact f8, by rw [e5]; exact f9, by rw [e5]; exact f10⟩, ?_, L, ?_, ?_, ?_⟩, fun y => ?_⟩
  · have n74 : r ≠ 74 := fun e => b (Or.inl e)
    have n75 : r ≠ 75 := fun e => b (Or.inr (Or.inl e))
    have n97 : r ≠ 97 := fun e => b (Or.inr (Or.inr (Or.inr (Or.inl e))))
    have n98 : r ≠ 98 := fun e => b (Or.inr (Or.inr (Or.inr (Or.inr (Or.inl e)))))
    have npr : r ≠ pr := fun e => b (Or.inr (Or.inr (Or.inr (Or.inr (Or.inr (Or.inl e))))))
    rw [e6 r n74 n97 n98, e7 r n74 n75 npr, e5]
    exact f3 r a b
  · obtain ⟨o1, o2, o3, o4, o5, o6, o7, o8⟩ := O
    have ir : hp_i h' (hp_r h 95 0) = hp_i h (hp_r h 95 0) := e6 _ hr.1 hr.2.2.2.2.1 hr.2.2.2.2.2.1
    refine ⟨⟨o1.1, by rw [e1]; exact o1.2.1, by rw [e3]; exact o1.2.2⟩, by rw [e5]; exact ⟨o2.1, by rw [e1]; exact o2.2.1, by rw [e3]; exact o2.2.2⟩, by rw [e5, e4]; exact o3, by rw [e5, e4]; exact o4, by rw [e5, e4]; exact o5, by rw [e5, ir]; exact o6, by rw [e6 95 (by decide) (by decide) (by decide)]; exact o7, o8⟩
  · obtain ⟨s1, s2, s3, s4, s5, s6, s7, s8, s9, s10⟩ := S
    have kk : ∀ r c, ok_o h r c → ok_o h' r c := fun r c o => ⟨o.1, by rw [e1]; exact o.2.1, by rw [e3]; exact o.2.2⟩
    refine ⟨kk _ _ s1, ?_, ?_, ?_, ?_, by rw [e5]; exact s6, by rw [e5]; exact s7, by rw [e5]; exact s8, s9, by unfold TBX TB at s10 ⊢; rw [e5, e4, i90, it]; exact s10⟩
    · rw [e5, e4]; exact ⟨kk _ _ s2.1, s2.2⟩
    · rw [e5, e4]; exact ⟨kk _ _ s3.1, s3.2⟩
    · rw [e5, e4]; exact ⟨kk _ _ s4.1, s4.2⟩
    · rw [e5, e4]; exact ⟨kk _ _ s5.1, s5.2⟩
  · rw [e1, e4, e5]; exact n1
  · rw [e2, e4, e5]; exact n2
  · unfold VS
    rw [e5, e4, it, i90, j0 0 (by omega), j0 1 (by omega), j0 2 (by omega)]
/-- a look into the memory -/
theorem cg_new (B : BS h1 K co pr goal) (C : CG h1 h pr M) (x : KY) : ∃ b h', f_X9_isNew 90 x.1 x.2.1 x.2.2 h = some (b, h') ∧ CG h1 h' pr M ∧ (b = 0 → VS h x) ∧ (∀ y, VS h' y → VS h y ∨ y = x) ∧ (∀ r, r = 74 ∨ r = 75 ∨ r = 97 ∨ r = 98 ∨ r = pr → hp_i h' r = hp_i h r ∧ hp_j h' r = hp_j h r ∧ hp_r h' r = hp_r h r) := by
  have h4 := cg_s4 B C
  have hr := cg_row B C
  obtain ⟨b1, b2, b3, b4, b5, b6, b7, b8⟩ := bs_ne B
  obtain ⟨F, O, L, S, n1, n2⟩ := C
  obtain ⟨b, h', L', a1, a2, a3, a4, a5, a6, a7⟩ := st_new S x
  have F' := F
  obtain ⟨f1, f2, f3, f4, f5, f6, f7, f8, f9, f10⟩ := F
  obtain ⟨g1, g2, g3, g4, g5⟩ := a5
  have own : ∀ r, r = 74 ∨ r = 75 ∨ r = 97 ∨ r = 98 ∨ r = pr → hp_i h' r = hp_i h r ∧ hp_j h' r = hp_j h r ∧ hp_r h' r = hp_r h r := by
    intro r hr'
    have hn : r < hp_n h := by omega
    refine g3 r hn (fun hs => ?_)
    have := h4 r hs
    obtain e | e | e | e | e := hr'
    · exact this.1 e
    · exact this.2.1 e
    · exact this.2.2.2.1 e
    · exact this.2.2.2.2.1 e
    · exact this.2.2.2.2.2.1 e
  have n95 : ¬ S4 h 95 := fun hs => (h4 95 hs).2.2.1 rfl
  have nrow : ¬ S4 h (hp_r h 95 0) := fun hs => (h4 _ hs).2.2.2.2.2.2 rfl
  obtain ⟨c1, c2, c3⟩ := g3 95 (by omega) n95
  obtain ⟨d1, d2, d3⟩ := g3 _ O.2.1.2.1 nrow
  have er : hp_r h' 95 0 = hp_r h 95 0 := by rw [c3]
  have O' : OI h' M := by
    obtain ⟨o1, o2, o3, o4, o5, o6, o7, o8⟩ := O
    have lr := g2 _ o2.2.1
    refine ⟨⟨o1.1, by omega, by rw [(g2 95 (by omega)).1]; exact o1.2.2⟩, by rw [er]; exact ⟨o2.1, by have := o2.2.1; omega, by rw [lr.1]; exact o2.2.2⟩, by rw [er, lr.2]; exact o3, by rw [er, lr.2]; exact o4, by rw [er, lr.2]; exact o5, by rw [er, d1]; exact o6, by rw [c1]; exact o7, o8⟩
  refine ⟨b, h', a1, ⟨⟨by omega, fun r a => ⟨(g2 r (by omega)).1.trans (f2 r a).1, (g2 r (by omega)).2.trans (f2 r a).2⟩, fun r a bb => ?_, ⟨(own 74 (Or.inl rfl)).2.2.trans f4.1, fun k p q => (congrFun (own 74 (Or.inl rfl)).1 k).trans (f4.2 k p q)⟩, ⟨(own 75 (Or.inr (Or.inl rfl))).2.2.trans f5.1, (own 75 (Or.inr (Or.inl rfl))).1.trans f5.2⟩, ⟨(own pr (Or.inr (Or.inr (Or.inr (Or.inr rfl))))).2.2.trans f6.1, (own pr (Or.inr (Or.inr (Or.inr (Or.inr rfl))))).1.trans f6.2⟩, fun i hi => ?_, g5.trans f8, by rw [er]; exact f9, ?_⟩, O', L', a2, ?_, ?_⟩, a3, a4, own⟩
  · have ns : ¬ S4 h r := by
      intro hs
      obtain e | e | e | e | e := hs
      · exact bb (Or.inr (Or.inr (Or.inr (Or.inr (Or.inr (Or.inr (Or.inl (Or.inl e))))))))
      · obtain f | f := f7 0 (by omega)
        · exact bb (Or.inr (Or.inr (Or.inr (Or.inr (Or.inr (Or.inr (Or.inl (Or.inr (Or.inl (e.trans f))))))))))
        · omega
      · obtain f | f := f7 1 (by omega)
        · exact bb (Or.inr (Or.inr (Or.inr (Or.inr (Or.inr (Or.inr (Or.inl (Or.inr (Or.inr (Or.inl (e.trans f)))))))))))
        · omega
      · obtain f | f := f7 2 (by omega)
        · exact bb (Or.inr (Or.inr (Or.inr (Or.inr (Or.inr (Or.inr (Or.inl (Or.inr (Or.inr (Or.inr (Or.inl (e.trans f))))))))))))
        · omega
      · obtain f | f := f7 3 (by omega)
        · exact bb (Or.inr (Or.inr (Or.inr (Or.inr (Or.inr (Or.inr (Or.inl (Or.inr (Or.inr (Or.inr (Or.inr (e.trans f))))))))))))
        · omega
    obtain ⟨x1, x2, x3⟩ := g3 r (by omega) ns
    obtain ⟨y1, y2, y3⟩ := f3 r a bb
    exact ⟨x1.trans y1, x2.trans y2, x3.trans y3⟩
  · obtain e | e := g4 i hi
    · rw [e]; exact f7 i hi
    · exact Or.inr (by omega)
  · rw [er]
    obtain e | e := g4 3 (by omega)
    · rw [e]; exact f10
    · have := O.2.1.2.1; omega
  · rw [er, (g2 _ O.2.1.2.1).2]; omega
  · rw [er, (g2 _ O.2.1.2.1).2]; omega
/-- an outcome more -/
theorem cg_add (B : BS h1 K co pr goal) (C : CG h1 h pr M) (hM : M.length ≤ 1024) (x : Int32) : ∃ h', f_X3_add 95 x h = some h' ∧ CG h1 h' pr (rins x M) ∧ (∀ y, VS h' y ↔ VS h y) ∧ (∀ r, r = 74 ∨ r = 75 ∨ r = 97 ∨ r = 98 ∨ r = pr → hp_i h' r = hp_i h r ∧ hp_j h' r = hp_j h r ∧ hp_r h' r = hp_r h r) := by
  have h4 := cg_s4 B C
  have hr := cg_row B C
  obtain ⟨b1, b2, b3, b4, b5, b6, b7, b8⟩ := bs_ne B
  obtain ⟨F, O, L, S, n1, n2⟩ := C
  obtain ⟨h', a1, a2, a3⟩ := oc_add (x := x) O hM
  obtain ⟨f1, f2, f3, f4, f5, f6, f7, f8, f9, f10⟩ := F
  obtain ⟨g1, g2, g3, g4, g5, g6, g7, g8⟩ := a3
  have n95 := O.1.2.1
  have own : ∀ r, r = 74 ∨ r = 75 ∨ r = 97 ∨ r = 98 ∨ r = pr → hp_i h' r = hp_i h r ∧ hp_j h' r = hp_j h r ∧ hp_r h' r = hp_r h r := by
    intro r hr'
    have hn : r < hp_n h := by omega
    have h95 : r ≠ 95 := by omega
    have hrow : r ≠ hp_r h 95 0 := by
      intro e
      obtain q | q | q | q | q := hr'
      · exact hr.1 (e.symm.trans q)
      · exact hr.2.1 (e.symm.trans q)
      · exact hr.2.2.2.2.1 (e.symm.trans q)
      · exact hr.2.2.2.2.2.1 (e.symm.trans q)
      · exact hr.2.2.2.2.2.2 (e.symm.trans q)
    exact ⟨g3 r hn h95 hrow, g4 r hn, g5 r hn h95⟩
  have s4o : ∀ r, S4 h r → r < hp_n h → hp_i h' r = hp_i h r ∧ hp_j h' r = hp_j h r ∧ hp_r h' r = hp_r h r := fun r hs hn => by
    have := h4 r hs
    exact ⟨g3 r hn this.2.2.1 this.2.2.2.2.2.2, g4 r hn, g5 r hn this.2.2.1⟩
  obtain ⟨q1, q2, q3⟩ := s4o 90 (Or.inl rfl) S.1.2.1
  have et : hp_i h' (hp_r h 90 3) = hp_i h (hp_r h 90 3) := (s4o _ (Or.inr (Or.inr (Or.inr (Or.inr rfl)))) S.2.2.2.2.1.1.2.1).1
  have S' : SI h' L := by
    obtain ⟨s1, s2, s3, s4, s5, s6, s7, s8, s9, s10⟩ := S
    have kk : ∀ r c, ok_o h r c → ok_o h' r c := fun r c o => ⟨o.1, by have := o.2.1; omega, by rw [(g2 r o.2.1).1]; exact o.2.2⟩
    refine ⟨kk _ _ s1, ?_, ?_, ?_, ?_, by rw [q3]; exact s6, by rw [q3]; exact s7, by rw [q3]; exact s8, s9, by unfold TBX TB at s10 ⊢; rw [q3, q1, et, (g2 _ s5.1.2.1).2]; exact s10⟩
    · rw [q3]; exact ⟨kk _ _ s2.1, by rw [(g2 _ s2.1.2.1).2]; exact s2.2⟩
    · rw [q3]; exact ⟨kk _ _ s3.1, by rw [(g2 _ s3.1.2.1).2]; exact s3.2⟩
    · rw [q3]; exact ⟨kk _ _ s4.1, by rw [(g2 _ s4.1.2.1).2]; exact s4.2⟩
    · rw [q3]; exact ⟨kk _ _ s5.1, by rw [(g2 _ s5.1.2.1).2]; exact s5.2⟩
  refine ⟨h', a1, ⟨⟨by omega, fun r a => ⟨(g2 r (by omega)).1.trans (f2 r a).1, (g2 r (by omega)).2.trans (f2 r a).2⟩, fun r a bb => ?_, ⟨(own 74 (Or.inl rfl)).2.2.trans f4.1, fun k p q => (congrFun (own 74 (Or.inl rfl)).1 k).trans (f4.2 k p q)⟩, ⟨(own 75 (Or.inr (Or.inl rfl))).2.2.trans f5.1, (own 75 (Or.inr (Or.inl rfl))).1.trans f5.2⟩, ⟨(own pr (Or.inr (Or.inr (Or.inr (Or.inr rfl))))).2.2.trans f6.1, (own pr (Or.inr (Or.inr (Or.inr (Or.inr rfl))))).1.trans f6.2⟩, fun i hi => by rw [q3]; exact f7 i hi, by rw [q1]; exact f8, ?_, ?_⟩, a2, L, S', ?_, ?_⟩, fun y => ?_, own⟩
  · have hrow : r ≠ hp_r h 95 0 := by
      intro e
      obtain f | f := f9
      · exact bb (Or.inr (Or.inr (Or.inr (Or.inr (Or.inr (Or.inr (Or.inr (e.trans f))))))))
      · omega
    have h95 : r ≠ 95 := fun e => bb (Or.inr (Or.inr (Or.inl e)))
    obtain ⟨y1, y2, y3⟩ := f3 r a bb
    exact ⟨(g3 r (by omega) h95 hrow).trans y1, (g4 r (by omega)).trans y2, (g5 r (by omega) h95).trans y3⟩
  · obtain e | e := g6
    · rw [e]; exact f9
    · exact Or.inr (by omega)
  · rw [q3]
    obtain e | e := g6
    · rw [e]; exact f10
    · have := S.2.2.2.2.1.1.2.1; omega
  · omega
  · omega
  · unfold VS
    rw [q3, (g2 _ S.2.2.2.2.1.1.2.1).2, et, q1, g4 _ S.2.1.1.2.1, g4 _ S.2.2.1.1.2.1, g4 _ S.2.2.2.1.1.2.1]
end
