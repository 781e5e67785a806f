/-! ===== the house between calls: what both sides keep ===== -/
/-- programs, tape, its size, fault's kind and place, printed text, its size, wishes, witness, its length -/
abbrev SG : Type := (Nat → Option PD) × (Nat → Nat) × Nat × Int32 × Int32 × (Nat → Nat) × Nat × (Nat → Int32) × (Nat → Nat) × Nat
def sD (g : SG) : Nat → Option PD := g.1
def stpe (g : SG) : Nat → Nat := g.2.1
def sn (g : SG) : Nat := g.2.2.1
def sfk (g : SG) : Int32 := g.2.2.2.1
def sfp (g : SG) : Int32 := g.2.2.2.2.1
def spt (g : SG) : Nat → Nat := g.2.2.2.2.2.1
def spm (g : SG) : Nat := g.2.2.2.2.2.2.1
def swi (g : SG) : Nat → Int32 := g.2.2.2.2.2.2.2.1
def sws (g : SG) : Nat → Nat := g.2.2.2.2.2.2.2.2.1
def swm (g : SG) : Nat := g.2.2.2.2.2.2.2.2.2
/-- what holds of it -/
def SGI (g : SG) : Prop := (sn g ≤ 1000 ∧ ∀ k, k < sn g → stpe g k < 256) ∧ (spm g ≤ 1000 ∧ ∀ k, k < spm g → spt g k < 256) ∧ (∀ l, l < 5 → swi g l = -1 ∨ ∃ v, v ≤ 9 ∧ swi g l = nI v) ∧ swm g ≤ 8
/-- the class's cells that are always there -/
def GH (h : AH) : Prop :=
  (ok_o h 64 10 ∧ hp_r h 64 0 = 65 ∧ hp_r h 64 1 = 66 ∧ hp_r h 64 2 = 67 ∧ hp_r h 64 3 = 68 ∧ hp_r h 64 4 = 72 ∧ hp_r h 64 5 = 74 ∧ hp_r h 64 6 = 99) ∧ CH h ∧ (ok_o h 66 102 ∧ hp_l h 66 = 8) ∧ (ok_o h 67 100 ∧ hp_l h 67 = 5) ∧ (ok_o h 72 4 ∧ hp_r h 72 1 = 73 ∧ ok_o h 73 100 ∧ hp_l h 73 = 1000) ∧
  (ok_o h 99 1 ∧ hp_r h 99 0 = 100 ∧ hp_r h 99 1 = 101 ∧ ok_o h 100 100 ∧ hp_l h 100 = 16 ∧ ok_o h 101 100 ∧ hp_l h 101 = 16) ∧ (ok_o h 125 101 ∧ hp_l h 125 = 1) ∧ (hp_r h 90 3 = 94 ∨ 126 ≤ hp_r h 90 3) ∧ (hp_r h 95 0 = 96 ∨ 126 ≤ hp_r h 95 0)
/-- the class's values -/
def GVA (A : Nat → Nat → Int32) (g : SG) : Prop :=
  (A 64 7 = nI (sn g) ∧ ∀ k, k < sn g → A 65 k = nI (stpe g k)) ∧ (A 64 8 = sfk g ∧ A 64 9 = sfp g) ∧ (A 72 0 = nI (spm g) ∧ ∀ k, k < spm g → A 73 k = nI (spt g k)) ∧ (∀ l, l < 5 → A 67 l = swi g l) ∧ A 74 5 = nI (swm g) ∧ ∀ k, k < swm g → A 98 k = nI (sws g k)
def GVl (h : AH) (g : SG) : Prop := GVA (hp_i h) g
/-- the class's places -/
def GPl (h : AH) (g : SG) : Prop := (∀ p, p < 8 → (sD g p = none ∧ hp_r h 66 p = 0) ∨ ∃ d, sD g p = some d ∧ CPl h (hp_r h 66 p) d) ∧ ∀ p q, p < 8 → q < 8 → p ≠ q → hp_r h 66 p = hp_r h 66 q → hp_r h 66 p = 0
/-- the room -/
def GRm (h : AH) (m : Nat) : Prop := hp_n h ≤ 126 + 20 * m + pot h ∧ hp_s h ≤ 100000 + 2000 * m + pot8 h
/-- the class after m calls -/
def GC (h : AH) (g : SG) (m : Nat) : Prop := SGI g ∧ GH h ∧ GVl h g ∧ GPl h g ∧ GRm h m ∧ ∃ tn, tn ≤ 100 * m ∧ HB h tn
/-- the reference's program d at place p -/
def RPl (h : AH) (p : Nat) (d : PD) : Prop :=
  LF (fun k => hp_i h 106 (900 * p + k)) (pE d) (pA d) (pS d) (pst d) (plb d) (pmb d) (pmk d) ∧ ∀ c, c < 6 → hp_i h 106 (900 * p + c) = pK d c
/-- what the reference keeps of a program's searches -/
def RCk (h : AH) (p : Nat) (d : PD) : Prop :=
  (∀ o, o < 3 → hp_i h 111 (3 * p + o) = -1 ∨ ∃ M, LI h (3 * p + o) M ∧ ∀ z, z ∈ M ↔ ∃ s, EN d o s ∧ z = oR (owN (pO d)) (pS d).length s) ∧
  (hp_i h 115 p = -1 ∨ ∃ f : Nat → Int32, hp_i h 115 p = nI (RLf f 64).length ∧ (∀ k, k < (RLf f 64).length → hp_i h 116 (64 * p + k) = nI ((RLf f 64).getD k 0)) ∧ ∀ k, k < 64 → (¬ f k = 0 ↔ ∃ i j, i < j ∧ j < (pA d).length ∧ k = 8 * i + j ∧ ∃ z, EN d 0 z ∧ raC (fun k => hp_i h 106 (900 * p + k)) z i j)) ∧
  (hp_i h 118 p = 0 ∨ (hp_i h 118 p = 1 ∧ ∀ i j, i < (pA d).length → j < (pA d).length → mk8 (hp_i h 119 (64 * p + 8 * i + j)) (bqE (KP (pR d)) (Vk (pK d)) i j)))
/-- the reference's places -/
def RPs (h : AH) (g : SG) : Prop := ∀ p, p < 8 → (sD g p = none ∧ hp_i h 106 (900 * p + 7) = 0) ∨ ∃ d, sD g p = some d ∧ RPl h p d ∧ RCk h p d ∧ PDk d
def RVA (A : Nat → Nat → Int32) (g : SG) : Prop :=
  (A 102 3 = nI (sn g) ∧ ∀ k, k < sn g → A 103 k = nI (stpe g k)) ∧ (A 102 13 = sfk g ∧ A 102 14 = sfp g) ∧ (A 102 4 = nI (spm g) ∧ ∀ k, k < spm g → A 104 k = nI (spt g k)) ∧ (∀ l, l < 5 → A 112 l = swi g l) ∧ (A 102 35 = nI (swm g) ∧ ∀ k, k < swm g → A 113 k = nI (sws g k)) ∧ A 102 27 = 0 ∧ ∃ l, l < 5 ∧ A 102 22 = nI l
def RVl (h : AH) (g : SG) : Prop := RVA (hp_i h) g
def GR (h : AH) (g : SG) : Prop := RZ h ∧ RVl h g ∧ RPs h g
/-- the class leaves the reference's cells alone -/
def CLF (h h' : AH) : Prop := hp_n h ≤ hp_n h' ∧ ∀ r, 102 ≤ r → r ≤ 125 → hp_k h' r = hp_k h r ∧ hp_l h' r = hp_l h r ∧ (r ≤ 124 → hp_i h' r = hp_i h r ∧ hp_j h' r = hp_j h r ∧ hp_r h' r = hp_r h r)
/-- the reference leaves the class's cells alone -/
def RLF (h h' : AH) : Prop := FRi (fun r _ => 102 ≤ r ∧ r ≤ 124) h h'
section
variable {h h' : AH} {g : SG} {m p : Nat} {d : PD}
theorem rzL_b : ∀ x, x ∈ rzL → 102 ≤ x.2.1 ∧ x.2.1 ≤ 125 := by decide
theorem rz_cl (F : CLF h h') (R : RZ h) : RZ h' := by
  obtain ⟨r1, r2, r3, r4, r5, r6⟩ := R
  have ok : ∀ r c, 102 ≤ r → r ≤ 125 → ok_o h r c → ok_o h' r c := fun r c a b o => ⟨o.1, Nat.lt_of_lt_of_le o.2.1 F.1, by rw [(F.2 r a b).1]; exact o.2.2⟩
  have e102 := ((F.2 102 (by omega) (by omega)).2.2 (by omega)).2.2
  have e105 := ((F.2 105 (by omega) (by omega)).2.2 (by omega)).2.1
  refine ⟨ok _ _ (by omega) (by omega) r1, fun x hx => ?_, by rw [e102]; exact r3, ok _ _ (by omega) (by omega) r4, by rw [(F.2 105 (by omega) (by omega)).2.1]; exact r5, by rw [e105]; exact r6⟩
  obtain ⟨a, b, c⟩ := r2 x hx
  have hb := rzL_b x hx
  exact ⟨by rw [e102]; exact a, ok _ _ hb.1 hb.2 b, by rw [(F.2 _ hb.1 hb.2).2.1]; exact c⟩
/-- RCk reads only these -/
theorem rc_cg (e106 : ∀ k, k < 900 → hp_i h' 106 (900 * p + k) = hp_i h 106 (900 * p + k)) (e111 : ∀ o, o < 3 → hp_i h' 111 (3 * p + o) = hp_i h 111 (3 * p + o)) (e110 : ∀ o k, o < 3 → k < 2048 → hp_i h' 110 (2048 * (3 * p + o) + k) = hp_i h 110 (2048 * (3 * p + o) + k))
    (e115 : hp_i h' 115 p = hp_i h 115 p) (e116 : ∀ k, k < 64 → hp_i h' 116 (64 * p + k) = hp_i h 116 (64 * p + k)) (e118 : hp_i h' 118 p = hp_i h 118 p) (e119 : ∀ k, k < 64 → hp_i h' 119 (64 * p + k) = hp_i h 119 (64 * p + k)) (hn : (pA d).length ≤ 8) (C : RCk h p d) (hF : ∀ z i j, i < (pA d).length → j < (pA d).length → (raC (fun k => hp_i h' 106 (900 * p + k)) z i j ↔ raC (fun k => hp_i h 106 (900 * p + k)) z i j)) : RCk h' p d := by
  obtain ⟨c1, c2, c3⟩ := C
  refine ⟨fun o ho => ?_, ?_, ?_⟩
  · rw [e111 o ho]
    refine (c1 o ho).imp id (fun ⟨M, ⟨m1, m2, m3, m4⟩, m5⟩ => ⟨M, ⟨by rw [e111 o ho]; exact m1, fun i hi => ?_, m3, m4⟩, m5⟩)
    show hp_i h' 110 (2048 * (3 * p + o) + i) = _
    rw [e110 o i ho (by omega)]
    exact m2 i hi
  · rw [e115]
    refine c2.imp id (fun ⟨f, f1, f2, f3⟩ => ⟨f, f1, fun k hk' => ?_, fun k hk' => ?_⟩)
    · have : (RLf f 64).length ≤ 64 := by
        unfold RLf
        exact Nat.le_trans (List.length_filter_le _ _) (by rw [List.length_range]; exact Nat.le_refl _)
      rw [e116 k (by omega)]
      exact f2 k hk'
    · rw [f3 k hk']
      constructor
      · rintro ⟨i, j, a, b, c, z, z1, z2⟩
        exact ⟨i, j, a, b, c, z, z1, (hF z i j (by omega) b).mpr z2⟩
      · rintro ⟨i, j, a, b, c, z, z1, z2⟩
        exact ⟨i, j, a, b, c, z, z1, (hF z i j (by omega) b).mp z2⟩
  · rw [e118]
    refine c3.imp id (fun ⟨a, b⟩ => ⟨a, fun i j hi hj => ?_⟩)
    have e : 64 * p + 8 * i + j = 64 * p + (8 * i + j) := by omega
    rw [e, e119 _ (by omega), ← e]
    exact b i j hi hj
theorem gr_cl (F : CLF h h') (G : GR h g) : GR h' g := by
  obtain ⟨a, b, c⟩ := G
  have e : ∀ r, 102 ≤ r → r ≤ 124 → hp_i h' r = hp_i h r := fun r h1 h2 => ((F.2 r h1 (by omega)).2.2 h2).1
  refine ⟨rz_cl F a, ?_, fun p hp => ?_⟩
  · unfold RVl RVA at *
    rw [e 102 (by omega) (by omega), e 103 (by omega) (by omega), e 104 (by omega) (by omega), e 112 (by omega) (by omega), e 113 (by omega) (by omega)]
    exact b
  · have := c p hp
    unfold RPl RCk LI at *
    rw [e 106 (by omega) (by omega), e 110 (by omega) (by omega), e 111 (by omega) (by omega), e 115 (by omega) (by omega), e 116 (by omega) (by omega), e 118 (by omega) (by omega), e 119 (by omega) (by omega)]
    exact this
/-- the class's cells are as they were -/
def SMC (h h' : AH) : Prop := hp_n h' = hp_n h ∧ hp_s h' = hp_s h ∧ hp_k h' = hp_k h ∧ hp_l h' = hp_l h ∧ hp_j h' = hp_j h ∧ hp_r h' = hp_r h ∧ ∀ r, r < 102 ∨ 125 ≤ r → hp_i h' r = hp_i h r
theorem rl_sm (F : RLF h h') : SMC h h' := ⟨F.1, F.2.1, F.2.2.1, F.2.2.2.1, F.2.2.2.2.1, F.2.2.2.2.2.1, fun r hr => by
  funext k
  exact F.2.2.2.2.2.2 r k (by omega)⟩
theorem hb_eq {tn : Nat} (e1 : hp_n h' = hp_n h) (e3 : hp_k h' = hp_k h) (e4 : hp_l h' = hp_l h) (e6 : hp_r h' = hp_r h) (i1 : hp_i h' 90 = hp_i h 90) (i2 : hp_i h' 95 = hp_i h 95) (i3 : hp_i h' (hp_r h 90 3) = hp_i h (hp_r h 90 3)) (i4 : hp_i h' (hp_r h 95 0) = hp_i h (hp_r h 95 0)) (H : HB h tn) : HB h' tn := by
  unfold HB SI0 OI TB ok_o at *
  rw [e1, e3, e4, e6, i1, i2, i3, i4]
  exact H
theorem gc_sm (F : SMC h h') (G : GC h g m) : GC h' g m := by
  obtain ⟨a, b, c, d, ⟨r1, r2⟩, tn, t1, t2⟩ := G
  obtain ⟨e1, e2, e3, e4, e5, e6, e7⟩ := F
  have w1 := b.2.2.2.2.2.2.2.1
  have w2 := b.2.2.2.2.2.2.2.2
  refine ⟨a, ?_, ?_, ?_, ⟨by unfold pot at *; rw [e1, e4, e6]; exact r1, by unfold pot8 at *; rw [e2, e4, e6]; exact r2⟩, tn, t1, hb_eq e1 e3 e4 e6 (e7 90 (by omega)) (e7 95 (by omega)) (e7 _ (by omega)) (e7 _ (by omega)) t2⟩
  · unfold GH CH ok_o at *
    rw [e1, e3, e4, e6]
    exact b
  · unfold GVl GVA at *
    rw [e7 64 (by omega), e7 65 (by omega), e7 72 (by omega), e7 73 (by omega), e7 67 (by omega), e7 74 (by omega), e7 98 (by omega)]
    exact c
  · obtain ⟨d1, d2⟩ := d
    have Q : SQ h h' 0 := sq_of (by omega) (fun r hr _ => ⟨by rw [e3], by rw [e4], e7 r (by omega), by rw [e6], by rw [e5]⟩) (by rw [e6]) (by rw [e6])
    refine ⟨fun p hp => ?_, by rw [e6]; exact d2⟩
    rw [e6]
    refine (d1 p hp).imp id (fun ⟨x, x1, x2⟩ => ⟨x, x1, cpl_fr Q (fun z => ?_) x2⟩)
    have := x2.1.1.1
    omega
theorem gc_rl (F : RLF h h') (G : GC h g m) : GC h' g m := gc_sm (rl_sm F) G
end
